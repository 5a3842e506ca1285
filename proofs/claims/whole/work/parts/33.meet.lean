/-! PURE PART: two lines -/
def bt (x a c : Int) : Prop := (a ≤ x ∧ x ≤ c) ∨ (c ≤ x ∧ x ≤ a)
theorem mp_neg {t p w : Int} (hw : 0 < w) : (0 ≤ p * w ↔ 0 ≤ p) ∧ (p * w ≤ 0 ↔ p ≤ 0) := by
  have h := sgp (a := p) hw
  rw [Int.mul_comm] at h
  omega
theorem m_le {p a w : Int} (hw : 0 < w) : p * w ≤ a * w ↔ p ≤ a := ⟨fun h => Int.le_of_mul_le_mul_right h hw, fun h => Int.mul_le_mul_of_nonneg_right h (Int.le_of_lt hw)⟩
theorem bt_of {a t p w : Int} (hw : 0 < w) (h0 : 0 ≤ t) (h1 : t ≤ w) (h : a * t = p * w) : bt p 0 a := by
  have e := mp_neg (t := 0) (p := p) hw
  have f := m_le (p := p) (a := a) hw
  have f2 := m_le (p := a) (a := p) hw
  unfold bt
  rcases Int.le_total 0 a with q | q
  · have g1 : 0 ≤ a * t := Int.mul_nonneg q h0
    have g2 : a * t ≤ a * w := Int.mul_le_mul_of_nonneg_left h1 q
    rw [h] at g1 g2
    exact Or.inl ⟨e.1.mp g1, f.mp g2⟩
  · have g1 : a * t ≤ 0 := Int.mul_nonpos_of_nonpos_of_nonneg q h0
    have g2 : a * w ≤ a * t := Int.mul_le_mul_of_nonpos_left q h1
    rw [h] at g1 g2
    exact Or.inr ⟨f2.mp g2, e.2.mp g1⟩
theorem bt_to {a t p w : Int} (hw : 0 < w) (ha : a ≠ 0) (hb : bt p 0 a) (h : a * t = p * w) : 0 ≤ t ∧ t ≤ w := by
  have e := mp_neg (t := 0) (p := p) hw
  have f := m_le (p := p) (a := a) hw
  have f2 := m_le (p := a) (a := p) hw
  rcases Int.lt_or_gt_of_ne ha with q | q
  · have hp : a ≤ p ∧ p ≤ 0 := by unfold bt at hb; omega
    have g1 := e.2.mpr hp.2
    have g2 := f2.mpr hp.1
    rw [← h] at g1 g2
    have s1 := sgn (a := t) q
    have s2 := sgn (a := t - w) q
    rw [Int.mul_sub] at s2
    omega
  · have hp : 0 ≤ p ∧ p ≤ a := by unfold bt at hb; omega
    have g1 := e.1.mpr hp.1
    have g2 := f.mpr hp.2
    rw [← h] at g1 g2
    have s1 := sgp (a := t) q
    have s2 := sgp (a := t - w) q
    rw [Int.mul_sub] at s2
    omega
theorem bt_opp {p r w1 w2 : Int} (h : p * w2 = r * w1) (hw : (w1 < 0 ∧ 0 < w2) ∨ (0 < w1 ∧ w2 < 0)) : bt 0 p r := by
  unfold bt
  rcases hw with ⟨a, b⟩ | ⟨a, b⟩
  · have s1 := sgn (a := r) a
    have s2 := sgp (a := p) b
    rw [Int.mul_comm] at s1 s2
    omega
  · have s1 := sgp (a := r) a
    have s2 := sgn (a := p) b
    rw [Int.mul_comm] at s1 s2
    omega
theorem bt_same {p r w1 w2 : Int} (h : p * w2 = r * w1) (hb : bt 0 p r) (hw : (w1 < 0 ∧ w2 < 0) ∨ (0 < w1 ∧ 0 < w2)) : p = 0 ∧ r = 0 := by
  unfold bt at hb
  rcases hw with ⟨a, b⟩ | ⟨a, b⟩
  · have s1 := sgn (a := r) a
    have s2 := sgn (a := p) b
    rw [Int.mul_comm] at s1 s2
    omega
  · have s1 := sgp (a := r) a
    have s2 := sgp (a := p) b
    rw [Int.mul_comm] at s1 s2
    omega
theorem span_of {a p r t w1 w2 : Int} (h1 : 0 < w1) (h2 : 0 < w2) (ht : 0 < t) (htk : t < w1 + w2) (h : a * t = p * w2 + r * w1) : ¬ (0 < p ∧ 0 < r ∧ a < p ∧ a < r) ∧ ¬ (p < 0 ∧ r < 0 ∧ p < a ∧ r < a) := by
  constructor
  · rintro ⟨q1, q2, q3, q4⟩
    have g1 : 0 < p * w2 := Int.mul_pos q1 h2
    have g2 : 0 < r * w1 := Int.mul_pos q2 h1
    have g3 : a * w2 < p * w2 := Int.mul_lt_mul_of_pos_right q3 h2
    have g4 : a * w1 < r * w1 := Int.mul_lt_mul_of_pos_right q4 h1
    rcases (show a ≤ 0 ∨ 0 < a by omega) with q | q
    · have : a * t ≤ 0 := Int.mul_nonpos_of_nonpos_of_nonneg q (Int.le_of_lt ht)
      omega
    · have g5 : a * t < a * (w1 + w2) := Int.mul_lt_mul_of_pos_left htk q
      rw [Int.mul_add] at g5
      omega
  · rintro ⟨q1, q2, q3, q4⟩
    have g1 : p * w2 < 0 := Int.mul_neg_of_neg_of_pos q1 h2
    have g2 : r * w1 < 0 := Int.mul_neg_of_neg_of_pos q2 h1
    have g3 : p * w2 < a * w2 := Int.mul_lt_mul_of_pos_right q3 h2
    have g4 : r * w1 < a * w1 := Int.mul_lt_mul_of_pos_right q4 h1
    rcases (show 0 ≤ a ∨ a < 0 by omega) with q | q
    · have : 0 ≤ a * t := Int.mul_nonneg q (Int.le_of_lt ht)
      omega
    · have g5 : a * (w1 + w2) < a * t := Int.mul_lt_mul_of_neg_left htk q
      rw [Int.mul_add] at g5
      omega
/-- the same part of the way, the other coordinate -/
theorem bt_par {a b p q : Int} (ha : a ≠ 0) (h : a * q = b * p) (hb : bt p 0 a) : bt q 0 b := by
  have h' : b * p = q * a := by rw [← h, Int.mul_comm]
  rcases Int.lt_or_gt_of_ne ha with w | w
  · have hp : a ≤ p ∧ p ≤ 0 := by unfold bt at hb; omega
    exact bt_of (a := b) (t := -p) (p := q) (w := -a) (by omega) (by omega) (by omega) (by rw [Int.mul_neg, Int.mul_neg, h'])
  · have hp : 0 ≤ p ∧ p ≤ a := by unfold bt at hb; omega
    exact bt_of (a := b) (t := p) (p := q) (w := a) w hp.1 hp.2 h'
theorem bt_par0 {a b p q r s : Int} (ha : a ≠ 0) (h1 : a * q = b * p) (h2 : a * s = b * r) (hb : bt 0 p r) : bt 0 q s := by
  unfold bt at hb ⊢
  rcases Int.lt_trichotomy b 0 with w | w | w
  · have p1 := sgn (a := p) w
    have r1 := sgn (a := r) w
    rcases Int.lt_or_gt_of_ne ha with z | z
    · have q1 := sgn (a := q) z
      have s1 := sgn (a := s) z
      rw [h1] at q1; rw [h2] at s1
      omega
    · have q1 := sgp (a := q) z
      have s1 := sgp (a := s) z
      rw [h1] at q1; rw [h2] at s1
      omega
  · subst w
    rw [Int.zero_mul] at h1 h2
    have q0 : q = 0 := (Int.mul_eq_zero.mp h1).resolve_left ha
    have s0 : s = 0 := (Int.mul_eq_zero.mp h2).resolve_left ha
    omega
  · have p1 := sgp (a := p) w
    have r1 := sgp (a := r) w
    rcases Int.lt_or_gt_of_ne ha with z | z
    · have q1 := sgn (a := q) z
      have s1 := sgn (a := s) z
      rw [h1] at q1; rw [h2] at s1
      omega
    · have q1 := sgp (a := q) z
      have s1 := sgp (a := s) z
      rw [h1] at q1; rw [h2] at s1
      omega
def sameS (x y : Int) : Prop := (x < 0 ∧ y < 0) ∨ (0 < x ∧ 0 < y)
def oppS (x y : Int) : Prop := (x < 0 ∧ 0 < y) ∨ (0 < x ∧ y < 0)
/-- the first line from (0, 0) to (a, b), the second from (p, q) to (r, s) -/
theorem meet0 {a b p q r s : Int} (hab : a ≠ 0 ∨ b ≠ 0) (he : p ≠ r ∨ q ≠ s) (o1 o2 o3 o4 : Int) (e1 : o1 = a * q - b * p) (e2 : o2 = a * s - b * r) (e3 : o3 = s * p - r * q) (e4 : o4 = o3 + o1 - o2) :
    ((¬ ((0 < p ∧ 0 < r ∧ a < p ∧ a < r) ∨ (p < 0 ∧ r < 0 ∧ p < a ∧ r < a)) ∧ ¬ ((0 < q ∧ 0 < s ∧ b < q ∧ b < s) ∨ (q < 0 ∧ s < 0 ∧ q < b ∧ s < b))) ∧ ¬ sameS o1 o2 ∧ ¬ sameS o3 o4) ↔
    ((oppS o1 o2 ∧ oppS o3 o4) ∨ (o1 = 0 ∧ bt p 0 a ∧ bt q 0 b) ∨ (o2 = 0 ∧ bt r 0 a ∧ bt s 0 b) ∨ (o3 = 0 ∧ bt 0 p r ∧ bt 0 q s) ∨ (o4 = 0 ∧ bt a p r ∧ bt b q s)) := by
  have i1 : a * o3 = p * o2 - r * o1 := by rw [e1, e2, e3]; simp only [Int.mul_sub]; simp only [Int.mul_comm, Int.mul_left_comm, Int.mul_assoc]; omega
  have i2 : b * o3 = q * o2 - s * o1 := by rw [e1, e2, e3]; simp only [Int.mul_sub]; simp only [Int.mul_comm, Int.mul_left_comm, Int.mul_assoc]; omega
  have i3 : a * o4 = (p - a) * o2 - (r - a) * o1 := by rw [e4, Int.mul_sub, Int.mul_add, i1, Int.sub_mul, Int.sub_mul]; omega
  have i4 : b * o4 = (q - b) * o2 - (s - b) * o1 := by rw [e4, Int.mul_sub, Int.mul_add, i2, Int.sub_mul, Int.sub_mul]; omega
  clear e3
  constructor
  · rintro ⟨⟨sx, sy⟩, n1, n2⟩
    unfold sameS at n1 n2
    by_cases z1 : o1 = 0
    · by_cases z2 : o2 = 0
      · rw [z1] at e1; rw [z2] at e2
        have k1 : a * q = b * p := by omega
        have k2 : a * s = b * r := by omega
        have z3 : o3 = 0 := by
          rw [z1, z2, Int.mul_zero, Int.mul_zero] at i1 i2
          rcases hab with h | h
          · exact (Int.mul_eq_zero.mp (show a * o3 = 0 by omega)).resolve_left h
          · exact (Int.mul_eq_zero.mp (show b * o3 = 0 by omega)).resolve_left h
        by_cases ha : a = 0
        · subst ha
          have hb : b ≠ 0 := by omega
          rw [Int.zero_mul] at k1 k2
          have p0 : p = 0 := (Int.mul_eq_zero.mp k1.symm).resolve_left hb
          have r0 : r = 0 := (Int.mul_eq_zero.mp k2.symm).resolve_left hb
          subst p0; subst r0
          have : bt q 0 b ∨ bt s 0 b ∨ bt 0 q s := by unfold bt; omega
          rcases this with w | w | w
          · exact Or.inr (Or.inl ⟨z1, by unfold bt; omega, w⟩)
          · exact Or.inr (Or.inr (Or.inl ⟨z2, by unfold bt; omega, w⟩))
          · exact Or.inr (Or.inr (Or.inr (Or.inl ⟨z3, by unfold bt; omega, w⟩)))
        · have : bt p 0 a ∨ bt r 0 a ∨ bt 0 p r := by unfold bt; omega
          rcases this with w | w | w
          · exact Or.inr (Or.inl ⟨z1, w, bt_par ha k1 w⟩)
          · exact Or.inr (Or.inr (Or.inl ⟨z2, w, bt_par ha k2 w⟩))
          · exact Or.inr (Or.inr (Or.inr (Or.inl ⟨z3, w, bt_par0 ha k1 k2 w⟩)))
      · refine Or.inr (Or.inl ⟨z1, ?_⟩)
        rw [z1, Int.mul_zero, Int.sub_zero] at i1 i2
        rcases Int.lt_or_gt_of_ne z2 with w | w
        · exact ⟨bt_of (w := -o2) (t := -o3) (by omega) (by omega) (by omega) (by rw [Int.mul_neg, Int.mul_neg, i1]), bt_of (w := -o2) (t := -o3) (by omega) (by omega) (by omega) (by rw [Int.mul_neg, Int.mul_neg, i2])⟩
        · exact ⟨bt_of (w := o2) (t := o3) w (by omega) (by omega) i1, bt_of (w := o2) (t := o3) w (by omega) (by omega) i2⟩
    · by_cases z2 : o2 = 0
      · refine Or.inr (Or.inr (Or.inl ⟨z2, ?_⟩))
        rw [z2, Int.mul_zero, Int.zero_sub] at i1 i2
        rcases Int.lt_or_gt_of_ne z1 with w | w
        · exact ⟨bt_of (w := -o1) (t := o3) (by omega) (by omega) (by omega) (by rw [Int.mul_neg, i1]), bt_of (w := -o1) (t := o3) (by omega) (by omega) (by omega) (by rw [Int.mul_neg, i2])⟩
        · exact ⟨bt_of (w := o1) (t := -o3) w (by omega) (by omega) (by rw [Int.mul_neg, i1, Int.neg_neg]), bt_of (w := o1) (t := -o3) w (by omega) (by omega) (by rw [Int.mul_neg, i2, Int.neg_neg])⟩
      · have hw : (o1 < 0 ∧ 0 < o2) ∨ (0 < o1 ∧ o2 < 0) := by omega
        by_cases z3 : o3 = 0
        · refine Or.inr (Or.inr (Or.inr (Or.inl ⟨z3, ?_⟩)))
          rw [z3, Int.mul_zero] at i1 i2
          exact ⟨bt_opp (show p * o2 = r * o1 by omega) hw, bt_opp (show q * o2 = s * o1 by omega) hw⟩
        · by_cases z4 : o4 = 0
          · refine Or.inr (Or.inr (Or.inr (Or.inr ⟨z4, ?_⟩)))
            rw [z4, Int.mul_zero] at i3 i4
            have g1 := bt_opp (show (p - a) * o2 = (r - a) * o1 by omega) hw
            have g2 := bt_opp (show (q - b) * o2 = (s - b) * o1 by omega) hw
            unfold bt at g1 g2 ⊢
            omega
          · exact Or.inl ⟨by unfold oppS; omega, by unfold oppS; omega⟩
  · rintro (⟨w1, w2⟩ | ⟨z, w1, w2⟩ | ⟨z, w1, w2⟩ | ⟨z, w1, w2⟩ | ⟨z, w1, w2⟩)
    · unfold oppS at w1 w2
      have hs : (¬ (0 < p ∧ 0 < r ∧ a < p ∧ a < r) ∧ ¬ (p < 0 ∧ r < 0 ∧ p < a ∧ r < a)) ∧ (¬ (0 < q ∧ 0 < s ∧ b < q ∧ b < s) ∧ ¬ (q < 0 ∧ s < 0 ∧ q < b ∧ s < b)) := by
        rcases w1 with ⟨g1, g2⟩ | ⟨g1, g2⟩
        · exact ⟨span_of (w1 := -o1) (w2 := o2) (t := o3) (by omega) (by omega) (by omega) (by omega) (by rw [i1, Int.mul_neg]; omega), span_of (w1 := -o1) (w2 := o2) (t := o3) (by omega) (by omega) (by omega) (by omega) (by rw [i2, Int.mul_neg]; omega)⟩
        · exact ⟨span_of (w1 := o1) (w2 := -o2) (t := -o3) (by omega) (by omega) (by omega) (by omega) (by rw [Int.mul_neg, i1, Int.mul_neg]; omega), span_of (w1 := o1) (w2 := -o2) (t := -o3) (by omega) (by omega) (by omega) (by omega) (by rw [Int.mul_neg, i2, Int.mul_neg]; omega)⟩
      refine ⟨⟨?_, ?_⟩, by unfold sameS; omega, by unfold sameS; omega⟩
      · rintro (q | q)
        · exact hs.1.1 q
        · exact hs.1.2 q
      · rintro (q | q)
        · exact hs.2.1 q
        · exact hs.2.2 q
    · refine ⟨⟨by unfold bt at w1; omega, by unfold bt at w2; omega⟩, by unfold sameS; omega, ?_⟩
      rw [z, Int.mul_zero, Int.sub_zero] at i1 i2
      have key : (o2 = 0 → o3 = 0) ∧ (0 < o2 → 0 ≤ o3 ∧ o3 ≤ o2) ∧ (o2 < 0 → o2 ≤ o3 ∧ o3 ≤ 0) := by
        rcases hab with h | h
        · refine ⟨fun y => ?_, fun y => bt_to y h w1 i1, fun y => ?_⟩
          · rw [y, Int.mul_zero] at i1
            exact (Int.mul_eq_zero.mp i1).resolve_left h
          · have := bt_to (a := a) (t := -o3) (p := p) (w := -o2) (by omega) h w1 (by rw [Int.mul_neg, Int.mul_neg, i1])
            omega
        · refine ⟨fun y => ?_, fun y => bt_to y h w2 i2, fun y => ?_⟩
          · rw [y, Int.mul_zero] at i2
            exact (Int.mul_eq_zero.mp i2).resolve_left h
          · have := bt_to (a := b) (t := -o3) (p := q) (w := -o2) (by omega) h w2 (by rw [Int.mul_neg, Int.mul_neg, i2])
            omega
      unfold sameS
      omega
    · refine ⟨⟨by unfold bt at w1; omega, by unfold bt at w2; omega⟩, by unfold sameS; omega, ?_⟩
      rw [z, Int.mul_zero, Int.zero_sub] at i1 i2
      have key : (o1 = 0 → o3 = 0) ∧ (o1 < 0 → 0 ≤ o3 ∧ o3 ≤ -o1) ∧ (0 < o1 → -o1 ≤ o3 ∧ o3 ≤ 0) := by
        rcases hab with h | h
        · refine ⟨fun y => ?_, fun y => bt_to (w := -o1) (by omega) h w1 (by rw [i1, Int.mul_neg]), fun y => ?_⟩
          · rw [y, Int.mul_zero, Int.neg_zero] at i1
            exact (Int.mul_eq_zero.mp i1).resolve_left h
          · have := bt_to (a := a) (t := -o3) (p := r) (w := o1) y h w1 (by rw [Int.mul_neg, i1, Int.neg_neg])
            omega
        · refine ⟨fun y => ?_, fun y => bt_to (w := -o1) (by omega) h w2 (by rw [i2, Int.mul_neg]), fun y => ?_⟩
          · rw [y, Int.mul_zero, Int.neg_zero] at i2
            exact (Int.mul_eq_zero.mp i2).resolve_left h
          · have := bt_to (a := b) (t := -o3) (p := s) (w := o1) y h w2 (by rw [Int.mul_neg, i2, Int.neg_neg])
            omega
      unfold sameS
      omega
    · refine ⟨⟨by unfold bt at w1; omega, by unfold bt at w2; omega⟩, ?_, by unfold sameS; omega⟩
      rw [z, Int.mul_zero] at i1 i2
      intro hs
      have g1 := bt_same (show p * o2 = r * o1 by omega) w1 (by unfold sameS at hs; omega)
      have g2 := bt_same (show q * o2 = s * o1 by omega) w2 (by unfold sameS at hs; omega)
      omega
    · refine ⟨⟨by unfold bt at w1; omega, by unfold bt at w2; omega⟩, ?_, by unfold sameS; omega⟩
      rw [z, Int.mul_zero] at i3 i4
      intro hs
      have g1 := bt_same (show (p - a) * o2 = (r - a) * o1 by omega) (by unfold bt at w1 ⊢; omega) (by unfold sameS at hs; omega)
      have g2 := bt_same (show (q - b) * o2 = (s - b) * o1 by omega) (by unfold bt at w2 ⊢; omega) (by unfold sameS at hs; omega)
      omega
