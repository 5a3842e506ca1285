/-! PURE PART: the reference's test of two lines -/
def sgI (z : Int) : Int32 := if 0 < z then 1 else if z < 0 then -1 else 0
theorem sign_ok {m : Me} {z : Int} (h1 : -2000000000 ≤ z) (h2 : z ≤ 2000000000) : f_Mo_signOf (iL z) m = some (sgI z) := by
  have e1 := lcmp_le (a := z) (b := 0) (by omega) (by omega) (by omega) (by omega)
  have e2 := lcmp_ge (a := z) (b := 0) (by omega) (by omega) (by omega) (by omega)
  unfold f_Mo_signOf sgI
  rw [show (0 : Int64) = iL 0 from rfl]
  by_cases a : z ≤ 0
  · rw [if_pos (e1.mpr a), if_neg (show ¬ 0 < z by omega)]
    by_cases b : 0 ≤ z
    · rw [if_pos (e2.mpr b), if_neg (show ¬ z < 0 by omega)]
    · rw [if_neg (fun w => b (e2.mp w)), if_pos (show z < 0 by omega)]
  · rw [if_neg (fun w => a (e1.mp w)), if_pos (by omega)]
theorem sg_0 {z : Int} : sgI z = 0 ↔ z = 0 := by
  unfold sgI
  rcases Int.lt_trichotomy z 0 with q | q | q
  · rw [if_neg (by omega), if_pos q]
    exact ⟨fun w => absurd w (by decide), fun w => by omega⟩
  · rw [if_neg (by omega), if_neg (by omega)]
    exact ⟨fun _ => q, fun _ => rfl⟩
  · rw [if_pos q]
    exact ⟨fun w => absurd w (by decide), fun w => by omega⟩
theorem sg_mul {x y : Int} : (0 ≤ sgI x * sgI y) ↔ ¬ oppS x y := by
  unfold sgI oppS
  rcases Int.lt_trichotomy x 0 with q | q | q <;> rcases Int.lt_trichotomy y 0 with w | w | w
  · rw [if_neg (by omega), if_pos q, if_neg (by omega), if_pos w]; exact ⟨fun _ => by omega, fun _ => by decide⟩
  · rw [if_neg (by omega), if_pos q, if_neg (by omega), if_neg (by omega)]; exact ⟨fun _ => by omega, fun _ => by decide⟩
  · rw [if_neg (by omega), if_pos q, if_pos w]; exact ⟨fun z => absurd z (by decide), fun z => by omega⟩
  · rw [if_neg (by omega), if_neg (by omega), if_neg (by omega), if_pos w]; exact ⟨fun _ => by omega, fun _ => by decide⟩
  · rw [if_neg (by omega), if_neg (by omega), if_neg (by omega), if_neg (by omega)]; exact ⟨fun _ => by omega, fun _ => by decide⟩
  · rw [if_neg (by omega), if_neg (by omega), if_pos w]; exact ⟨fun _ => by omega, fun _ => by decide⟩
  · rw [if_pos q, if_neg (by omega), if_pos w]; exact ⟨fun z => absurd z (by decide), fun z => by omega⟩
  · rw [if_pos q, if_neg (by omega), if_neg (by omega)]; exact ⟨fun _ => by omega, fun _ => by decide⟩
  · rw [if_pos q, if_pos w]; exact ⟨fun _ => by omega, fun _ => by decide⟩
theorem between_ok {m : Me} {v a b : Int} (rv : -2000000 ≤ v ∧ v ≤ 2000000) (ra : -2000000 ≤ a ∧ a ≤ 2000000) (rb : -2000000 ≤ b ∧ b ≤ 2000000) : IsB (f_Mo_isBetween (iL v) (iL a) (iL b) m) (bt v a b) := by
  have e1 := lcmp_lt (a := v) (b := a) (by omega) (by omega) (by omega) (by omega)
  have e2 := lcmp_le (a := v) (b := b) (by omega) (by omega) (by omega) (by omega)
  have e3 := lcmp_lt (a := v) (b := b) (by omega) (by omega) (by omega) (by omega)
  have e4 := lcmp_gt (a := v) (b := a) (by omega) (by omega) (by omega) (by omega)
  unfold f_Mo_isBetween
  simp only [bd, e1, e2, e3, e4]
  unfold IsB bt
  by_cases p : (a ≤ v ∧ v ≤ b) ∨ (b ≤ v ∧ v ≤ a)
  · left
    refine ⟨p, ?_⟩
    repeat' split
    all_goals first | rfl | (exfalso; omega)
  · right
    refine ⟨p, ?_⟩
    repeat' split
    all_goals first | rfl | (exfalso; omega)
/-- the place c of a row, 4 (from) or 6 (to) -/
theorem sideM_ok {m : Me} {o1 o2 : Nat} {l t r b fx fy tx ty x y : Int} {cI : Int32} {c : Nat} (hc : cI = nI c) (hc2 : c + 1 < 8) (h8 : ln o1 = 8) (k8 : ln o2 = 8) (A : Rw m o1 l t r b fx fy tx ty) (hx : m.2 o2 c = iL x) (hy : m.2 o2 (c + 1) = iL y) (hr : -2000000000 ≤ sdI (tx - fx) (ty - fy) fx fy x y ∧ sdI (tx - fx) (ty - fy) fx fy x y ≤ 2000000000) :
    f_Mo_side o1 4 6 o2 cI m = some (sgI (sdI (tx - fx) (ty - fy) fx fy x y)) := by
  obtain ⟨-, -, -, -, a4, a5, a6, a7⟩ := A
  subst hc
  have rr : ∀ (o k : Nat) (kI : Int32) (f : Nat → Int64) (K : Int64 → Option Int32), kI = nI k → k < 8 → ln o = 8 → rd (ln o) kI f K = K (f k) := fun o k kI f K e1 e2 e3 => by rw [e3]; exact rd_lit e1 e2 (by decide)
  unfold f_Mo_side
  rw [rr o1 6 6 _ _ rfl (by decide) h8, rr o1 4 4 _ _ rfl (by decide) h8, rr o2 (c + 1) _ _ _ (nI_1 c) hc2 k8, rr o1 5 (4 + 1) _ _ rfl (by decide) h8, rr o1 7 (6 + 1) _ _ rfl (by decide) h8, rr o1 5 (4 + 1) _ _ rfl (by decide) h8, rr o2 c _ _ _ rfl (by omega) k8, rr o1 4 4 _ _ rfl (by decide) h8]
  rw [a4, a5, a6, a7, hx, hy]
  simp only [iL_sub, iL_mul]
  have := sign_ok (m := m) hr.1 hr.2
  unfold sdI at this ⊢
  rw [this]
  rfl
theorem on_ok {m : Me} {o1 o2 : Nat} {l t r b fx fy tx ty x y : Int} {cI : Int32} {c : Nat} (hc : cI = nI c) (hc2 : c + 1 < 8) (h8 : ln o1 = 8) (k8 : ln o2 = 8) (A : Rw m o1 l t r b fx fy tx ty) (R1 : Rg l t r b fx fy tx ty) (hx : m.2 o2 c = iL x) (hy : m.2 o2 (c + 1) = iL y) (rx : -4000 ≤ x ∧ x ≤ 140000) (ry : -4000 ≤ y ∧ y ≤ 140000) :
    IsB (f_Mo_isOn o1 o2 cI m) (bt x fx tx ∧ bt y fy ty) := by
  obtain ⟨-, -, -, -, a4, a5, a6, a7⟩ := A
  obtain ⟨-, -, -, -, q5, q6, q7, q8, -⟩ := R1
  subst hc
  have rr : ∀ (o k : Nat) (kI : Int32) (f : Nat → Int64) (K : Int64 → Option Int32), kI = nI k → k < 8 → ln o = 8 → rd (ln o) kI f K = K (f k) := fun o k kI f K e1 e2 e3 => by rw [e3]; exact rd_lit e1 e2 (by decide)
  have b1 := between_ok (m := m) (v := x) (a := fx) (b := tx) (by omega) (by omega) (by omega)
  have b2 := between_ok (m := m) (v := y) (a := fy) (b := ty) (by omega) (by omega) (by omega)
  have z10 : ¬ (1 : Int32) = 0 := by decide
  unfold f_Mo_isOn
  rw [rr o2 c _ _ _ rfl (by omega) k8, rr o1 4 4 _ _ rfl (by decide) h8, rr o1 6 6 _ _ rfl (by decide) h8, hx, a4, a6]
  rcases b1 with ⟨p, e⟩ | ⟨p, e⟩ <;> rw [e] <;> simp only [cP]
  · rw [if_neg z10, rr o2 (c + 1) _ _ _ (nI_1 c) hc2 k8, rr o1 5 5 _ _ rfl (by decide) h8, rr o1 7 7 _ _ rfl (by decide) h8, hy, a5, a7]
    rcases b2 with ⟨q, e2⟩ | ⟨q, e2⟩ <;> rw [e2] <;> simp only []
    · rw [if_neg z10]
      exact Or.inl ⟨⟨p, q⟩, rfl⟩
    · rw [if_pos trivial]
      exact Or.inr ⟨fun w => q w.2, rfl⟩
  · rw [if_pos trivial]
    exact Or.inr ⟨fun w => p w.1, rfl⟩
