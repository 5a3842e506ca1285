theorem Rw.same {m m' : Me} {o : Nat} {l t r b fx fy tx ty : Int} (h : Rw m o l t r b fx fy tx ty) (e : m'.2 o = m.2 o) : Rw m' o l t r b fx fy tx ty := by
  unfold Rw at *
  rw [e]
  exact h
theorem kClash {m : Me} {L1 L2 : Bool} {l t r b fx fy tx ty l2 t2 r2 b2 gx gy hx hy : Int} (A : Rw m 211 l t r b fx fy tx ty) (B : Rw m 212 l2 t2 r2 b2 gx gy hx hy) (R1 : Rg l t r b fx fy tx ty) (R2 : Rg l2 t2 r2 b2 gx gy hx hy) (N1 : L1 = true → (tx ≠ fx ∨ ty ≠ fy)) (N2 : L2 = true → (hx ≠ gx ∨ hy ≠ gy)) (o1 : l < r) (o2 : t < b) (o3 : l2 < r2) (o4 : t2 < b2) (v5 v6 : Int32) (h5 : v5 = if L1 = true then 1 else 0) (h6 : v6 = if L2 = true then 1 else 0) :
    ∃ (x : Int32) (m' : Me), (bd (fun (m7 : Me) => some ((1 : Int32), m7)) (fun k165_ => bd (bd (fun (m8 : Me) => if v6 = 0 then some ((0 : Int32), m8) else cI (f_Mo_crosses 212 211 m8) (fun v9 m10 => if v9 = 0 then some ((0 : Int32), m10) else (k165_ m10))) (fun k145_ => if v5 = 0 then (k145_ m) else cI (f_Mo_crosses 211 212 m) (fun v11 m12 => if v11 = 0 then (k145_ m12) else (k165_ m12)))) (fun k125_ => if v5 = 0 then (k125_) else if v6 = 0 then (k125_) else cP (f_Mo_linesMeet m) (fun v13 => if v13 = 0 then (k125_) else (k165_ m)))) : Option (Int32 × Me)) = some (x, m') ∧
      ((x = 1 ∧ ((L1 = true ∧ enterI fx fy tx ty (2 * l2) (2 * t2) (2 * r2) (2 * b2)) ∨ (L2 = true ∧ enterI gx gy hx hy (2 * l) (2 * t) (2 * r) (2 * b)) ∨ (L1 = true ∧ L2 = true ∧ meetI fx fy tx ty gx gy hx hy))) ∨ (x = 0 ∧ ¬ ((L1 = true ∧ enterI fx fy tx ty (2 * l2) (2 * t2) (2 * r2) (2 * b2)) ∨ (L2 = true ∧ enterI gx gy hx hy (2 * l) (2 * t) (2 * r) (2 * b)) ∨ (L1 = true ∧ L2 = true ∧ meetI fx fy tx ty gx gy hx hy)))) ∧ m'.1 = m.1 := by
  simp only [bd]
  have z10 : ¬ (1 : Int32) = 0 := by decide
  obtain ⟨x1, m1, e1, y1, g1, g1'⟩ := crosses_ok (m := m) rfl rfl (by decide) (by decide) A B R1 R2
  obtain ⟨x2, m2, e2, y2, g2, -⟩ := crosses_ok (m := m) rfl rfl (by decide) (by decide) B A R2 R1
  obtain ⟨x3, m3, e3, y3, g3, -⟩ := crosses_ok (m := m1) rfl rfl (by decide) (by decide) (B.same (g1' 212 (by decide))) (A.same (g1' 211 (by decide))) R2 R1
  cases L1 <;> cases L2
  · subst h5; subst h6
    exact ⟨0, m, rfl, Or.inr ⟨rfl, by rintro (⟨q, -⟩ | ⟨q, -⟩ | ⟨q, -⟩) <;> cases q⟩, rfl⟩
  · subst h5; subst h6
    have i2 := cross_iff (fx := gx) (fy := gy) (tx := hx) (ty := hy) (l := 2 * l) (t := 2 * t) (r := 2 * r) (b := 2 * b) (by omega) (by omega) (N2 rfl)
    simp only [if_true, e2, cI, z10, if_false, Bool.false_eq_true]
    rcases y2 with ⟨rfl, w⟩ | ⟨rfl, w⟩
    · exact ⟨1, m2, rfl, Or.inl ⟨rfl, Or.inr (Or.inl ⟨by simp, i2.mp w⟩)⟩, g2⟩
    · refine ⟨0, m2, rfl, Or.inr ⟨rfl, ?_⟩, g2⟩
      rintro (⟨q, -⟩ | ⟨-, q⟩ | ⟨q, -⟩)
      · cases q
      · exact w (i2.mpr q)
      · cases q
  · subst h5; subst h6
    have i1 := cross_iff (fx := fx) (fy := fy) (tx := tx) (ty := ty) (l := 2 * l2) (t := 2 * t2) (r := 2 * r2) (b := 2 * b2) (by omega) (by omega) (N1 rfl)
    simp only [if_true, e1, cI, z10, if_false, Bool.false_eq_true]
    rcases y1 with ⟨rfl, w⟩ | ⟨rfl, w⟩
    · exact ⟨1, m1, rfl, Or.inl ⟨rfl, Or.inl ⟨by simp, i1.mp w⟩⟩, g1⟩
    · refine ⟨0, m1, rfl, Or.inr ⟨rfl, ?_⟩, g1⟩
      rintro (⟨-, q⟩ | ⟨q, -⟩ | ⟨-, q, -⟩)
      · exact w (i1.mpr q)
      · cases q
      · cases q
  · subst h5; subst h6
    have i1 := cross_iff (fx := fx) (fy := fy) (tx := tx) (ty := ty) (l := 2 * l2) (t := 2 * t2) (r := 2 * r2) (b := 2 * b2) (by omega) (by omega) (N1 rfl)
    have i2 := cross_iff (fx := gx) (fy := gy) (tx := hx) (ty := hy) (l := 2 * l) (t := 2 * t) (r := 2 * r) (b := 2 * b) (by omega) (by omega) (N2 rfl)
    have mt := moMeet_ok A B R1 R2 (N1 rfl) (N2 rfl)
    simp only [if_true, z10, if_false]
    rcases mt with ⟨k, e⟩ | ⟨k, e⟩ <;> rw [e] <;> simp only [cP]
    · exact ⟨1, m, rfl, Or.inl ⟨rfl, Or.inr (Or.inr ⟨by simp, by simp, k⟩)⟩, rfl⟩
    · simp only [if_true, e1, cI]
      rcases y1 with ⟨rfl, w⟩ | ⟨rfl, w⟩
      · exact ⟨1, m1, rfl, Or.inl ⟨rfl, Or.inl ⟨by simp, i1.mp w⟩⟩, g1⟩
      · simp only [if_true, e3, cI]
        rcases y3 with ⟨rfl, u⟩ | ⟨rfl, u⟩
        · exact ⟨1, m3, rfl, Or.inl ⟨rfl, Or.inr (Or.inl ⟨by simp, i2.mp u⟩)⟩, g3.trans g1⟩
        · refine ⟨0, m3, rfl, Or.inr ⟨rfl, ?_⟩, g3.trans g1⟩
          rintro (⟨-, q⟩ | ⟨-, q⟩ | ⟨-, -, q⟩)
          · exact w (i1.mpr q)
          · exact u (i2.mpr q)
          · exact k q
theorem finish {KT : Option (Int32 × Me)} {m m2 : Me} {O Q : Prop} (hK : ∃ (x : Int32) (m' : Me), KT = some (x, m') ∧ ((x = 1 ∧ Q) ∨ (x = 0 ∧ ¬ Q)) ∧ m'.1 = m2.1) (p2 : ∀ o, o ≠ 200 → m2.1 o = m.1 o) (p2k : ∀ k, (k < 16 ∨ 19 < k) → m2.1 200 k = m.1 200 k) (no : ¬ O) :
    ∃ (x : Int32) (m' : Me), KT = some (x, m') ∧ ((x = 1 ∧ (O ∨ Q)) ∨ (x = 0 ∧ ¬ (O ∨ Q))) ∧ (∀ o, o ≠ 200 → m'.1 o = m.1 o) ∧ ∀ k, (k < 16 ∨ 19 < k) → m'.1 200 k = m.1 200 k := by
  obtain ⟨x, m', e, y, g⟩ := hK
  refine ⟨x, m', e, ?_, fun o ho => by rw [g]; exact p2 o ho, fun k hk => by rw [g]; exact p2k k hk⟩
  rcases y with ⟨hx', q⟩ | ⟨hx', q⟩
  · exact Or.inl ⟨hx', Or.inr q⟩
  · exact Or.inr ⟨hx', fun w => w.elim no q⟩
set_option maxHeartbeats 2000000 in
theorem doClash_ok {m : Me} {a : Ch} {i w j v z : Nat} (hi : i < 24) (hj : j < 24) (hw : w < 16) (hv : v < 16) (hz : z < 7) (hN1 : NmS a i) (hN2 : NmS a j) (M1 : NmM m a i) (M2 : NmM m a j) :
    ∃ (x : Int32) (m' : Me), f_Mo_doClash (nI i) (nI w) (nI j) (nI v) (nI z) m = some (x, m') ∧ ((x = 1 ∧ clS a i w j v z) ∨ (x = 0 ∧ ¬ clS a i w j v z)) ∧ (∀ o, o ≠ 200 → m'.1 o = m.1 o) ∧ ∀ k, (k < 16 ∨ 19 < k) → m'.1 200 k = m.1 200 k := by
  have mbk : ∀ (m : Me) (l t : Int) (w h k : Nat), (k < 16 ∨ 19 < k) → (mbox m l t w h).1 200 k = m.1 200 k := by
    intro m l t w h k hk
    unfold mbox
    rw [si_j (by omega), si_j (by omega), si_j (by omega), si_j (by omega)]
  obtain ⟨m1, e1, c1, r1, f1⟩ := take_ok (o := 211) rfl hi hw hz hN1 M1
  have p1 : ∀ o, o ≠ 200 → m1.1 o = m.1 o := fun o ho => by rw [c1]; exact mb_o ho
  have p1k : ∀ k, (k < 16 ∨ 19 < k) → m1.1 200 k = m.1 200 k := fun k hk => by rw [c1]; exact mbk _ _ _ _ _ k hk
  have M2' : NmM m1 a j := by
    unfold NmM at *
    rw [p1 201 (by decide), p1 202 (by decide), p1 203 (by decide), p1 204 (by decide), p1 205 (by decide)]
    exact M2
  obtain ⟨m2, e2, c2, r2, f2⟩ := take_ok (o := 212) rfl hj hv hz hN2 M2'
  have p2 : ∀ o, o ≠ 200 → m2.1 o = m.1 o := fun o ho => by rw [c2, mb_o ho]; exact p1 o ho
  have p2k : ∀ k, (k < 16 ∨ 19 < k) → m2.1 200 k = m.1 200 k := fun k hk => by rw [c2, mbk _ _ _ _ _ k hk]; exact p1k k hk
  have r1' := r1.same (f2 211 (by decide))
  have L1 := moLed_ok (m := m2) hi hw hN1 (by rw [p2 201 (by decide)]; exact M1.1)
  have L2 := moLed_ok (m := m2) hj hv hN2 (by rw [p2 201 (by decide)]; exact M2.1)
  have R1 := box_rg (w := w) hz hN1
  have R2 := box_rg (w := v) hz hN2
  have q1 := lt_rg (w := w) hz hN1
  have q2 := lt_rg (w := v) hz hN2
  have D1 := led_nd (a := a) (i := i) (w := w) (z := z)
  have D2 := led_nd (a := a) (i := j) (w := v) (z := z)
  unfold clS
  generalize (2 * lS a i w z + (bwS a i w : Int)) = tx at *
  generalize (2 * tS a i w z + (bhS a i w : Int)) = ty at *
  generalize (2 * lS a j v z + (bwS a j v : Int)) = hx at *
  generalize (2 * tS a j v z + (bhS a j v : Int)) = hy at *
  have lr1 : lS a i w z < lS a i w z + (bwS a i w : Int) := by omega
  have tb1 : tS a i w z < tS a i w z + (bhS a i w : Int) := by omega
  have lr2 : lS a j v z < lS a j v z + (bwS a j v : Int) := by omega
  have tb2 : tS a j v z < tS a j v z + (bhS a j v : Int) := by omega
  generalize (lS a i w z + (bwS a i w : Int)) = r_1 at *
  generalize (tS a i w z + (bhS a i w : Int)) = b_1 at *
  generalize (lS a j v z + (bwS a j v : Int)) = r_2 at *
  generalize (tS a j v z + (bhS a j v : Int)) = b_2 at *
  generalize lS a i w z = l_1 at *
  generalize tS a i w z = t_1 at *
  generalize lS a j v z = l_2 at *
  generalize tS a j v z = t_2 at *
  generalize (2 * ((a 2 i * 2 ^ z : Nat) : Int)) = fx at *
  generalize (2 * ((a 3 i * 2 ^ z : Nat) : Int)) = fy at *
  generalize (2 * ((a 2 j * 2 ^ z : Nat) : Int)) = gx at *
  generalize (2 * ((a 3 j * 2 ^ z : Nat) : Int)) = gy at *
  unfold f_Mo_doClash
  rw [e1]
  simp only [cP]
  rw [e2]
  simp only [L1, L2]
  have hK := kClash (m := m2) r1' r2 R1 R2 D1 D2 lr1 tb1 lr2 tb2 _ _ rfl rfl
  have rr : ∀ (o k : Nat) (kI : Int32) (f : Nat → Int64) (K : Int64 → Option (Int32 × Me)), kI = nI k → k < 8 → ln o = 8 → rd (ln o) kI f K = K (f k) := fun o k kI f K e1 e2 e3 => by rw [e3]; exact rd_lit e1 e2 (by decide)
  obtain ⟨a0, a1, a2, a3, -⟩ := r1'
  obtain ⟨b0, b1, b2, b3, -⟩ := r2
  obtain ⟨s1, s2, s3, s4, -⟩ := R1
  obtain ⟨u1, u2, u3, u4, -⟩ := R2
  have k1 := lcmp_ge (a := 2 * l_1) (b := 2 * r_2) (by omega) (by omega) (by omega) (by omega)
  have k2 := lcmp_ge (a := 2 * l_2) (b := 2 * r_1) (by omega) (by omega) (by omega) (by omega)
  have k3 := lcmp_ge (a := 2 * t_1) (b := 2 * b_2) (by omega) (by omega) (by omega) (by omega)
  have k4 := lcmp_ge (a := 2 * t_2) (b := 2 * b_1) (by omega) (by omega) (by omega) (by omega)
  rw [rr 211 0 0 _ _ rfl (by decide) rfl, rr 212 2 2 _ _ rfl (by decide) rfl, a0, b2]
  simp only [bd]
  rw [rr 212 0 0 _ _ rfl (by decide) rfl, rr 211 2 2 _ _ rfl (by decide) rfl, b0, a2, rr 211 1 1 _ _ rfl (by decide) rfl, rr 212 3 3 _ _ rfl (by decide) rfl, a1, b3, rr 212 1 1 _ _ rfl (by decide) rfl, rr 211 3 3 _ _ rfl (by decide) rfl, b1, a3]
  have fin := fun no => finish (O := ovI l_1 t_1 r_1 b_1 l_2 t_2 r_2 b_2) hK p2 p2k no
  by_cases c1 : 2 * r_2 ≤ 2 * l_1
  · rw [if_pos (k1.mpr c1)]
    exact fin (fun q => by have := q.1; omega)
  · rw [if_neg (fun w => c1 (k1.mp w))]
    by_cases c2 : 2 * r_1 ≤ 2 * l_2
    · rw [if_pos (k2.mpr c2)]
      exact fin (fun q => by have := q.2.1; omega)
    · rw [if_neg (fun w => c2 (k2.mp w))]
      by_cases c3 : 2 * b_2 ≤ 2 * t_1
      · rw [if_pos (k3.mpr c3)]
        exact fin (fun q => by have := q.2.2.1; omega)
      · rw [if_neg (fun w => c3 (k3.mp w))]
        by_cases c4 : 2 * b_1 ≤ 2 * t_2
        · rw [if_pos (k4.mpr c4)]
          exact fin (fun q => by have := q.2.2.2; omega)
        · rw [if_neg (fun w => c4 (k4.mp w))]
          exact ⟨1, m2, rfl, Or.inl ⟨rfl, Or.inl ⟨by omega, by omega, by omega, by omega⟩⟩, p2, p2k⟩
