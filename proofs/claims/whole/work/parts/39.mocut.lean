/-! PURE PART: the reference's cut -/
def FT (m : Me) (p q : Int × Int) : Prop := m.2 200 22 = iL p.1 ∧ m.2 200 23 = iL p.2 ∧ m.2 200 24 = iL q.1 ∧ m.2 200 25 = iL q.2
def Fr (p : Int × Int) : Prop := (-500000 ≤ p.1 ∧ p.1 ≤ 500000) ∧ (0 < p.2 ∧ p.2 ≤ 500000)
theorem mulL {x y : Int} (h1 : -500000 ≤ x) (h2 : x ≤ 500000) (h3 : -500000 ≤ y) (h4 : y ≤ 500000) : -9223372036854775808 ≤ x * y ∧ x * y < 9223372036854775808 := by
  have := mul_rg (A := 500000) (B := 500000) h1 h2 h3 h4 (by decide) (by decide)
  omega
set_option maxHeartbeats 1000000 in
theorem cut_pos {m : Me} {fr to by' : Int} {p q : Int × Int} (h : FT m p q) (hp : Fr p) (hq : Fr q) (r1 : -500000 ≤ fr ∧ fr ≤ 500000) (r2 : -500000 ≤ to ∧ to ≤ 500000) (r3 : 0 < by' ∧ by' ≤ 500000) :
    ∃ m', (bd (fun (m4 : Me) => if 0 ≤ (lg_cmp (iL to * (m4.2 200 25)) ((m4.2 200 24) * iL by')) then some ((1 : Int32), m4) else bd (sl m4 200 24 (iL to)) (fun m5 => bd (sl m5 200 25 (iL by')) (fun m6 => some ((1 : Int32), m6)))) (fun k108_ => if (lg_cmp (iL fr * (m.2 200 23)) ((m.2 200 22) * iL by')) ≤ 0 then (k108_ m) else bd (sl m 200 22 (iL fr)) (fun m7 => bd (sl m7 200 23 (iL by')) (fun m8 => (k108_ m8)))) : Option (Int32 × Me)) = some (1, m') ∧
      FT m' (mxP p (fr, by')) (mnP q (to, by')) ∧ m'.1 = m.1 ∧ ∀ o', o' ≠ 200 → m'.2 o' = m.2 o' := by
  obtain ⟨h1, h2, h3, h4⟩ := h
  obtain ⟨⟨p1, p2⟩, p3, p4⟩ := hp
  obtain ⟨⟨q1, q2⟩, q3, q4⟩ := hq
  have a1 := mulL (x := fr) (y := p.2) r1.1 r1.2 (by omega) p4
  have a2 := mulL (x := p.1) (y := by') p1 p2 (by omega) r3.2
  have a3 := mulL (x := to) (y := q.2) r2.1 r2.2 (by omega) q4
  have a4 := mulL (x := q.1) (y := by') q1 q2 (by omega) r3.2
  have c1 := lcmp_le a1.1 a1.2 a2.1 a2.2
  have c2 := lcmp_ge a3.1 a3.2 a4.1 a4.2
  unfold mxP mnP
  simp only [bd]
  by_cases d1 : fr * p.2 ≤ p.1 * by'
  · rw [h1, h2, iL_mul, iL_mul, if_pos (c1.mpr d1), if_neg (show ¬ fr * p.2 > p.1 * by' by omega), h3, h4, iL_mul, iL_mul]
    by_cases d2 : q.1 * by' ≤ to * q.2
    · rw [if_pos (c2.mpr d2), if_neg (show ¬ to * q.2 < q.1 * by' by omega)]
      exact ⟨m, rfl, ⟨h1, h2, h3, h4⟩, rfl, fun _ _ => rfl⟩
    · rw [if_neg (fun z => d2 (c2.mp z)), if_pos (show to * q.2 < q.1 * by' by omega)]
      refine ⟨_, rfl, ⟨?_, ?_, ?_, ?_⟩, rfl, ?_⟩
      · simp [sl2, h1]
      · simp [sl2, h2]
      · simp [sl2]
      · simp [sl2]
      · intro o' ho; funext j; simp [sl2, ho]
  · rw [h1, h2, iL_mul, iL_mul, if_neg (fun z => d1 (c1.mp z)), if_pos (show fr * p.2 > p.1 * by' by omega)]
    have g3 : (sl (sl m 200 22 (iL fr)) 200 23 (iL by')).2 200 24 = iL q.1 := by simp [sl2, h3]
    have g4 : (sl (sl m 200 22 (iL fr)) 200 23 (iL by')).2 200 25 = iL q.2 := by simp [sl2, h4]
    rw [g3, g4, iL_mul, iL_mul]
    by_cases d2 : q.1 * by' ≤ to * q.2
    · rw [if_pos (c2.mpr d2), if_neg (show ¬ to * q.2 < q.1 * by' by omega)]
      refine ⟨_, rfl, ⟨?_, ?_, g3, g4⟩, rfl, ?_⟩
      · simp [sl2]
      · simp [sl2]
      · intro o' ho; funext j; simp [sl2, ho]
    · rw [if_neg (fun z => d2 (c2.mp z)), if_pos (show to * q.2 < q.1 * by' by omega)]
      refine ⟨_, rfl, ⟨?_, ?_, ?_, ?_⟩, rfl, ?_⟩
      · simp [sl2]
      · simp [sl2]
      · simp [sl2]
      · simp [sl2]
      · intro o' ho; funext j; simp [sl2, ho]
theorem cut_ok {m : Me} {v d lo hi : Int} {p q : Int × Int} (h : FT m p q) (hp : Fr p) (hq : Fr q) (rv : -150000 ≤ v ∧ v ≤ 150000) (rd' : -1500 ≤ d ∧ d ≤ 1500) (rl : -150000 ≤ lo ∧ lo ≤ 150000) (rh : -150000 ≤ hi ∧ hi ≤ 150000) :
    ∃ (b : Int32) (m' : Me), f_Mo_cut (iL v) (iL d) (iL lo) (iL hi) m = some (b, m') ∧ ((b = 1 ∧ (d = 0 → lo < v ∧ v < hi)) ∨ (b = 0 ∧ ¬ (d = 0 → lo < v ∧ v < hi))) ∧ FT m' (cuF v d lo hi p) (cuT v d lo hi q) ∧ m'.1 = m.1 ∧ ∀ o', o' ≠ 200 → m'.2 o' = m.2 o' := by
  have z0 : (0 : Int64) = iL 0 := rfl
  have e1 := lcmp_eq (a := d) (b := 0) (by omega) (by omega) (by omega) (by omega)
  have e2 := lcmp_le (a := d) (b := 0) (by omega) (by omega) (by omega) (by omega)
  have e3 := lcmp_le (a := v) (b := lo) (by omega) (by omega) (by omega) (by omega)
  have e4 := lcmp_ge (a := v) (b := hi) (by omega) (by omega) (by omega) (by omega)
  unfold f_Mo_cut
  rw [z0]
  by_cases d0 : d = 0
  · rw [if_pos (e1.mpr d0)]
    have f1 : cuF v d lo hi p = p := by unfold cuF; rw [if_pos d0]
    have f2 : cuT v d lo hi q = q := by unfold cuT; rw [if_pos d0]
    rw [f1, f2]
    by_cases k1 : v ≤ lo
    · rw [if_pos (e3.mpr k1)]
      exact ⟨0, m, rfl, Or.inr ⟨rfl, fun w => by have := w d0; omega⟩, h, rfl, fun _ _ => rfl⟩
    · rw [if_neg (fun w => k1 (e3.mp w))]
      by_cases k2 : hi ≤ v
      · rw [if_pos (e4.mpr k2)]
        exact ⟨0, m, rfl, Or.inr ⟨rfl, fun w => by have := w d0; omega⟩, h, rfl, fun _ _ => rfl⟩
      · rw [if_neg (fun w => k2 (e4.mp w))]
        exact ⟨1, m, rfl, Or.inl ⟨rfl, fun _ => by omega⟩, h, rfl, fun _ _ => rfl⟩
  · rw [if_neg (fun w => d0 (e1.mp w))]
    by_cases dp : d > 0
    · have f1 : cuF v d lo hi p = mxP p (lo - v, d) := by unfold cuF; rw [if_neg d0, if_pos dp]
      have f2 : cuT v d lo hi q = mnP q (hi - v, d) := by unfold cuT; rw [if_neg d0, if_pos dp]
      rw [f1, f2]
      have n2 : ¬ lg_cmp (iL d) (iL 0) ≤ 0 := fun w => by have := e2.mp w; omega
      obtain ⟨m', g1, g2, g3, g4⟩ := cut_pos (m := m) (fr := lo - v) (to := hi - v) (by' := d) h hp hq (by omega) (by omega) (by omega)
      refine ⟨1, m', ?_, Or.inl ⟨rfl, fun w => absurd w d0⟩, g2, g3, g4⟩
      rw [← g1]
      simp only [bd, if_neg n2, iL_sub]
    · have f1 : cuF v d lo hi p = mxP p (v - hi, -d) := by unfold cuF; rw [if_neg d0, if_neg dp]
      have f2 : cuT v d lo hi q = mnP q (v - lo, -d) := by unfold cuT; rw [if_neg d0, if_neg dp]
      rw [f1, f2]
      have n2 : lg_cmp (iL d) (iL 0) ≤ 0 := e2.mpr (by omega)
      obtain ⟨m', g1, g2, g3, g4⟩ := cut_pos (m := m) (fr := v - hi) (to := v - lo) (by' := -d) h hp hq (by omega) (by omega) (by omega)
      refine ⟨1, m', ?_, Or.inl ⟨rfl, fun w => absurd w d0⟩, g2, g3, g4⟩
      rw [← g1]
      simp only [bd, if_pos n2, iL_sub, iL_neg]
