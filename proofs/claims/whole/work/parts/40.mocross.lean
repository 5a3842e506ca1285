/-! PURE PART: the reference's line against a box -/
theorem cuF_fr {v d lo hi : Int} {p : Int × Int} (hp : Fr p) (rv : -150000 ≤ v ∧ v ≤ 150000) (rd' : -1500 ≤ d ∧ d ≤ 1500) (rl : -150000 ≤ lo ∧ lo ≤ 150000) (rh : -150000 ≤ hi ∧ hi ≤ 150000) : Fr (cuF v d lo hi p) := by
  unfold cuF mxP
  repeat' split
  all_goals first | exact hp | (unfold Fr; exact ⟨⟨by simp only []; omega, by simp only []; omega⟩, by simp only []; omega, by simp only []; omega⟩)
theorem cuT_fr {v d lo hi : Int} {p : Int × Int} (hp : Fr p) (rv : -150000 ≤ v ∧ v ≤ 150000) (rd' : -1500 ≤ d ∧ d ≤ 1500) (rl : -150000 ≤ lo ∧ lo ≤ 150000) (rh : -150000 ≤ hi ∧ hi ≤ 150000) : Fr (cuT v d lo hi p) := by
  unfold cuT mnP
  repeat' split
  all_goals first | exact hp | (unfold Fr; exact ⟨⟨by simp only []; omega, by simp only []; omega⟩, by simp only []; omega, by simp only []; omega⟩)
set_option maxHeartbeats 1000000 in
theorem crosses_ok {m : Me} {o1 o2 : Nat} {l t r b fx fy tx ty l2 t2 r2 b2 gx gy hx hy : Int} (h8 : ln o1 = 8) (k8 : ln o2 = 8) (n1 : o1 ≠ 200) (n2 : o2 ≠ 200) (A : Rw m o1 l t r b fx fy tx ty) (B : Rw m o2 l2 t2 r2 b2 gx gy hx hy) (R1 : Rg l t r b fx fy tx ty) (R2 : Rg l2 t2 r2 b2 gx gy hx hy) :
    ∃ (x : Int32) (m' : Me), f_Mo_crosses o1 o2 m = some (x, m') ∧ ((x = 1 ∧ crossI fx fy (tx - fx) (ty - fy) (2 * l2) (2 * t2) (2 * r2) (2 * b2)) ∨ (x = 0 ∧ ¬ crossI fx fy (tx - fx) (ty - fy) (2 * l2) (2 * t2) (2 * r2) (2 * b2))) ∧ m'.1 = m.1 ∧ ∀ o', o' ≠ 200 → m'.2 o' = m.2 o' := by
  obtain ⟨-, -, -, -, a4, a5, a6, a7⟩ := A
  obtain ⟨b0, b1, b2', b3, -⟩ := B
  obtain ⟨-, -, -, -, q5, q6, q7, q8, q9, q10⟩ := R1
  obtain ⟨w1, w2, w3, w4, -⟩ := R2
  unfold f_Mo_crosses
  simp only [bd]
  generalize hm4 : sl (sl (sl (sl m 200 22 (-1)) 200 23 1) 200 24 2) 200 25 1 = m4
  have f4 : FT m4 (-1, 1) (2, 1) := by
    rw [← hm4]
    unfold FT
    refine ⟨?_, ?_, ?_, ?_⟩ <;> simp [sl2] <;> rfl
  have m41 : m4.1 = m.1 := by rw [← hm4]; rfl
  have m42 : ∀ o', o' ≠ 200 → m4.2 o' = m.2 o' := by
    intro o' ho
    rw [← hm4]
    funext j
    simp [sl2, ho]
  have rr : ∀ (o k : Nat) (kI : Int32) (f : Nat → Int64) (K : Int64 → Option (Int32 × Me)), kI = nI k → k < 8 → ln o = 8 → rd (ln o) kI f K = K (f k) := fun o k kI f K e1 e2 e3 => by rw [e3]; exact rd_lit e1 e2 (by decide)
  rw [rr o1 4 4 _ _ rfl (by decide) h8, rr o1 6 6 _ _ rfl (by decide) h8, rr o1 4 4 _ _ rfl (by decide) h8, rr o2 0 0 _ _ rfl (by decide) k8, rr o2 2 2 _ _ rfl (by decide) k8]
  rw [m42 o1 n1, m42 o2 n2, a4, a6, b0, b2', iL_sub]
  have F0 : Fr ((-1 : Int), (1 : Int)) := by unfold Fr; simp
  have T0 : Fr ((2 : Int), (1 : Int)) := by unfold Fr; simp
  obtain ⟨x1, m11, e1, y1, g1, g2, g3⟩ := cut_ok (v := fx) (d := tx - fx) (lo := 2 * l2) (hi := 2 * r2) f4 F0 T0 (by omega) (by omega) (by omega) (by omega)
  rw [e1]
  simp only [cI]
  have F1 := cuF_fr (v := fx) (d := tx - fx) (lo := 2 * l2) (hi := 2 * r2) F0 (by omega) (by omega) (by omega) (by omega)
  have T1 := cuT_fr (v := fx) (d := tx - fx) (lo := 2 * l2) (hi := 2 * r2) T0 (by omega) (by omega) (by omega) (by omega)
  have z10 : ¬ (1 : Int32) = 0 := by decide
  have c11 : m11.1 = m.1 := g2.trans m41
  have c12 : ∀ o', o' ≠ 200 → m11.2 o' = m.2 o' := fun o' ho => (g3 o' ho).trans (m42 o' ho)
  rcases y1 with ⟨rfl, y1⟩ | ⟨rfl, y1⟩
  · rw [if_neg z10]
    rw [rr o1 5 5 _ _ rfl (by decide) h8, rr o1 7 7 _ _ rfl (by decide) h8, rr o1 5 5 _ _ rfl (by decide) h8, rr o2 1 1 _ _ rfl (by decide) k8, rr o2 3 3 _ _ rfl (by decide) k8]
    rw [c12 o1 n1, c12 o2 n2, a5, a7, b1, b3, iL_sub]
    obtain ⟨x2, m21, e2, y2, k1, k2, k3⟩ := cut_ok (v := fy) (d := ty - fy) (lo := 2 * t2) (hi := 2 * b2) g1 F1 T1 (by omega) (by omega) (by omega) (by omega)
    rw [e2]
    simp only [cI]
    have F2 := cuF_fr (v := fy) (d := ty - fy) (lo := 2 * t2) (hi := 2 * b2) F1 (by omega) (by omega) (by omega) (by omega)
    have T2 := cuT_fr (v := fy) (d := ty - fy) (lo := 2 * t2) (hi := 2 * b2) T1 (by omega) (by omega) (by omega) (by omega)
    have d11 : m21.1 = m.1 := k2.trans c11
    have d12 : ∀ o', o' ≠ 200 → m21.2 o' = m.2 o' := fun o' ho => (k3 o' ho).trans (c12 o' ho)
    rcases y2 with ⟨rfl, y2⟩ | ⟨rfl, y2⟩
    · rw [if_neg z10, if_neg z10]
      obtain ⟨u1, u2, u3, u4⟩ := k1
      unfold crossI
      generalize cuF fy (ty - fy) (2 * t2) (2 * b2) (cuF fx (tx - fx) (2 * l2) (2 * r2) (-1, 1)) = P at *
      generalize cuT fy (ty - fy) (2 * t2) (2 * b2) (cuT fx (tx - fx) (2 * l2) (2 * r2) (2, 1)) = Q at *
      obtain ⟨⟨P1, P2⟩, P3, P4⟩ := F2
      obtain ⟨⟨Q1, Q2⟩, Q3, Q4⟩ := T2
      have A1 := mulL (x := P.1) (y := Q.2) P1 P2 (by omega) Q4
      have A2 := mulL (x := Q.1) (y := P.2) Q1 Q2 (by omega) P4
      have C1 := lcmp_ge A1.1 A1.2 A2.1 A2.2
      have C2 := lcmp_ge (a := P.1) (b := P.2) (by omega) (by omega) (by omega) (by omega)
      have C3 := lcmp_le (a := Q.1) (b := 0) (by omega) (by omega) (by omega) (by omega)
      rw [u1, u2, u3, u4, iL_mul, iL_mul, show (0 : Int64) = iL 0 from rfl]
      by_cases D1 : Q.1 * P.2 ≤ P.1 * Q.2
      · rw [if_pos (C1.mpr D1)]
        exact ⟨0, m21, rfl, Or.inr ⟨rfl, fun w => by have := w.2.2.1; omega⟩, d11, d12⟩
      · rw [if_neg (fun w => D1 (C1.mp w))]
        by_cases D2 : P.2 ≤ P.1
        · rw [if_pos (C2.mpr D2)]
          exact ⟨0, m21, rfl, Or.inr ⟨rfl, fun w => by have := w.2.2.2.1; omega⟩, d11, d12⟩
        · rw [if_neg (fun w => D2 (C2.mp w))]
          by_cases D3 : Q.1 ≤ 0
          · rw [if_pos (C3.mpr D3)]
            exact ⟨0, m21, rfl, Or.inr ⟨rfl, fun w => by have := w.2.2.2.2; omega⟩, d11, d12⟩
          · rw [if_neg (fun w => D3 (C3.mp w))]
            exact ⟨1, m21, rfl, Or.inl ⟨rfl, y1, y2, by omega, by omega, by omega⟩, d11, d12⟩
    · rw [if_pos rfl, if_pos trivial]
      exact ⟨0, m21, rfl, Or.inr ⟨rfl, fun w => y2 w.2.1⟩, d11, d12⟩
  · rw [if_pos rfl, if_pos trivial]
    exact ⟨0, m11, rfl, Or.inr ⟨rfl, fun w => y1 w.1⟩, c11, c12⟩
