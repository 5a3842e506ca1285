/-! PURE PART: the invariant; arguments; the caches are brought up to date -/
def LY (m : Me) (n d : Nat) (a : Ch) : Prop := m.1 3 2 = 0 ∨ (m.1 3 2 = 1 ∧ LK m n d a)
def PT (m : Me) (n d : Nat) (a : Ch) : Prop := m.1 6 4 = 0 ∨ (m.1 6 4 = 1 ∧ PK m n d a)
def PL (m : Me) (n d : Nat) (a : Ch) : Prop := m.1 105 5 = 0 ∨ (m.1 105 5 = 1 ∧ PLi m n (plS n d a n))
def Iv (m : Me) (n d : Nat) (a : Ch) (e h : Nat) (H : Hs) : Prop := VV n d a ∧ CC m 10 n d a ∧ MM m n d a ∧ HV e h H ∧ HC m e h H ∧ HM m e h H ∧ LY m n d a ∧ PT m n d a ∧ PL m n d a
def Inv (m : Me) : Prop := ∃ n d a e h H, Iv m n d a e h H
theorem LK.fr {S : Nat → Nat → Prop} {m m' : Me} {n d : Nat} {a : Ch} (hV : VV n d a) (h : LK m n d a) (f : Fm S m m') (g : ∀ o j, (o = 5 ∨ (1000 ≤ o ∧ o < 1384)) → ¬ S o j) : LK m' n d a := fun i hi => by
  have h24 := hV.1
  have w16 := waysS_le (a := a) (i := i)
  exact ⟨fun w hw => ((h i hi).1 w hw).same (fun j => f _ _ (g _ _ (by unfold bx; omega))), fun w => by rw [f _ _ (g _ _ (by omega))]; exact (h i hi).2 w⟩
theorem PK.fr {S : Nat → Nat → Prop} {m m' : Me} {n d : Nat} {a : Ch} (h : PK m n d a) (f : Fm S m m') (g : ∀ o j, (o = 7 ∨ (o = 6 ∧ (j = 2 ∨ j = 3))) → ¬ S o j) : PK m' n d a := by
  obtain ⟨h1, h2, G, h3, h4, h5⟩ := h
  exact ⟨fun k hk => by rw [f _ _ (g _ _ (by omega))]; exact h1 k hk, by rw [f _ _ (g _ _ (by omega))]; exact h2, G, h3, by rw [f _ _ (g _ _ (by omega))]; exact h4, h5⟩
theorem LY.fr {S : Nat → Nat → Prop} {m m' : Me} {n d : Nat} {a : Ch} (hV : VV n d a) (h : LY m n d a) (f : Fm S m m') (g0 : ¬ S 3 2) (g : ∀ o j, (o = 5 ∨ (1000 ≤ o ∧ o < 1384)) → ¬ S o j) : LY m' n d a := by
  rcases h with h | ⟨h, k⟩
  · exact Or.inl (by rw [f _ _ g0]; exact h)
  · exact Or.inr ⟨by rw [f _ _ g0]; exact h, k.fr hV f g⟩
theorem PT.fr {S : Nat → Nat → Prop} {m m' : Me} {n d : Nat} {a : Ch} (h : PT m n d a) (f : Fm S m m') (g : ∀ o j, (o = 7 ∨ (o = 6 ∧ (j = 2 ∨ j = 3 ∨ j = 4))) → ¬ S o j) : PT m' n d a := by
  rcases h with h | ⟨h, k⟩
  · exact Or.inl (by rw [f _ _ (g _ _ (by omega))]; exact h)
  · exact Or.inr ⟨by rw [f _ _ (g _ _ (by omega))]; exact h, k.fr f (fun o j q => g o j (by omega))⟩
theorem PL.fr {S : Nat → Nat → Prop} {m m' : Me} {n d : Nat} {a : Ch} (h : PL m n d a) (f : Fm S m m') (g : ∀ o j, (o = 106 ∨ o = 107 ∨ (o = 105 ∧ j = 5)) → ¬ S o j) : PL m' n d a := by
  rcases h with h | ⟨h, k⟩
  · exact Or.inl (by rw [f _ _ (g _ _ (by omega))]; exact h)
  · exact Or.inr ⟨by rw [f _ _ (g _ _ (by omega))]; exact h, k.fr f (fun j => ⟨g _ _ (by omega), g _ _ (by omega)⟩)⟩
/-- what a class's question may change -/
theorem Iv.cls {S : Nat → Nat → Prop} {m m' : Me} {n d : Nat} {a : Ch} {e h : Nat} {H : Hs} (i : Iv m n d a e h H) (f : Fm S m m') (g : ∀ o j, S o j → ((2 < o ∧ o < 10) ∨ (100 ≤ o ∧ o < 200) ∨ 1000 ≤ o)) (l : LY m' n d a) (p : PT m' n d a) (q : PL m' n d a) : Iv m' n d a e h H := by
  obtain ⟨i1, i2, i3, i4, i5, i6, -, -, -⟩ := i
  refine ⟨i1, i2.fr f ?_, i3.fr f ?_ ?_ ?_, i4, i5.fr f ?_, i6.fr i4 f ?_ ?_ ?_, l, p, q⟩
  · intro o j _ _ w; have := g o j w; omega
  · intro w; have := g _ _ w; omega
  · intro w; have := g _ _ w; omega
  · intro o j _ _ w; have := g o j w; omega
  · intro o j _ w; have := g o j w; omega
  · intro w; have := g _ _ w; omega
  · intro w; have := g _ _ w; omega
  · intro j w; have := g _ _ w; omega
def SMq (o j : Nat) : Prop := (o = 200 ∧ j ≠ 1 ∧ j ≠ 2 ∧ j ≠ 13 ∧ j ≠ 14) ∨ (211 ≤ o ∧ o < 223)
theorem Iv.mod {m m' : Me} {n d : Nat} {a : Ch} {e h : Nat} {H : Hs} (i : Iv m n d a e h H) (f : Fm SMq m m') : Iv m' n d a e h H := by
  obtain ⟨i1, i2, i3, i4, i5, i6, i7, i8, i9⟩ := i
  refine ⟨i1, i2.fr f ?_, i3.fr f ?_ ?_ ?_, i4, i5.fr f ?_, i6.fr i4 f ?_ ?_ ?_, i7.fr i1 f ?_ ?_, i8.fr f ?_, i9.fr f ?_⟩
  · intro o j _ _; unfold SMq; omega
  · unfold SMq; omega
  · unfold SMq; omega
  · intro o j _ _; unfold SMq; omega
  · intro o j _; unfold SMq; omega
  · unfold SMq; omega
  · unfold SMq; omega
  · intro j; unfold SMq; omega
  · unfold SMq; omega
  · intro o j _; unfold SMq; omega
  · intro o j _; unfold SMq; omega
  · intro o j _; unfold SMq; omega
theorem Iv.m0 {m : Me} {n d : Nat} {a : Ch} {e h : Nat} {H : Hs} (i : Iv m n d a e h H) : Iv (si m 200 0 0) n d a e h H := i.mod (Fm.wr (by unfold SMq; omega))
theorem SD_q {o j : Nat} (h : SD o j) : SMq o j := by unfold SD at h; unfold SMq; omega
theorem Iv.fD {m m' : Me} {n d : Nat} {a : Ch} {e h : Nat} {H : Hs} (i : Iv m n d a e h H) (f : Fm SD m m') : Iv m' n d a e h H := i.mod (f.mo (fun _ _ q => SD_q q))
theorem layOut_q {m : Me} {n d : Nat} {a : Ch} {e h : Nat} {H : Hs} (i : Iv m n d a e h H) : ∃ m', f_NC_layOut m = some m' ∧ Iv m' n d a e h H ∧ LK m' n d a := by
  obtain ⟨i1, i2, i3, i4, i5, i6, i7, i8, i9⟩ := id i
  unfold f_NC_layOut
  rcases i7 with q | ⟨q, k⟩
  · obtain ⟨m', e1, k1, z1, f1⟩ := refresh_ok i1 i2 q
    rw [e1]
    refine ⟨m', rfl, i.cls f1 ?_ (Or.inr ⟨z1, k1⟩) (i8.fr f1 ?_) (i9.fr f1 ?_), k1⟩
    · intro o j w; unfold SLy at w; omega
    · intro o j w; unfold SLy; omega
    · intro o j w; unfold SLy; omega
  · unfold f_Lay_refresh
    rw [if_neg (by rw [q]; decide)]
    exact ⟨m, rfl, i, k⟩
theorem splitUp_q {m : Me} {n d : Nat} {a : Ch} {e h : Nat} {H : Hs} (i : Iv m n d a e h H) : ∃ m', f_NC_splitUp m = some m' ∧ Iv m' n d a e h H ∧ LK m' n d a ∧ PK m' n d a := by
  obtain ⟨m1, e1, j1, k1⟩ := layOut_q i
  obtain ⟨i1, i2, i3, i4, i5, i6, i7, i8, i9⟩ := id j1
  unfold f_NC_splitUp
  rw [e1]
  simp only [cP]
  rcases i8 with q | ⟨q, k⟩
  · obtain ⟨m', e2, k2, z2, f2⟩ := split_ok i1 i2 k1 q
    rw [e2]
    refine ⟨m', rfl, j1.cls f2 ?_ (i7.fr i1 f2 ?_ ?_) (Or.inr ⟨z2, k2⟩) (i9.fr f2 ?_), k1.fr i1 f2 ?_, k2⟩
    · intro o j w; unfold S678 at w; omega
    · unfold S678; omega
    · intro o j w; unfold S678; omega
    · intro o j w; unfold S678; omega
    · intro o j w; unfold S678; omega
  · unfold f_Parts_refresh
    rw [if_neg (by rw [q]; decide)]
    exact ⟨m1, rfl, j1, k1, k⟩
theorem plan_q {m : Me} {n d : Nat} {a : Ch} {e h : Nat} {H : Hs} (i : Iv m n d a e h H) : ∃ m', f_Plan_refresh m = some m' ∧ Iv m' n d a e h H ∧ PLi m' n (plS n d a n) := by
  obtain ⟨i1, i2, i3, i4, i5, i6, i7, i8, i9⟩ := id i
  rcases i9 with q | ⟨q, k⟩
  · obtain ⟨m', e1, k1, z1, f1⟩ := plan_ok i1 i2 q
    refine ⟨m', e1, i.cls f1 ?_ (i7.fr i1 f1 ?_ ?_) (i8.fr f1 ?_) (Or.inr ⟨z1, k1⟩), k1⟩
    · intro o j w; unfold SPl at w; omega
    · unfold SPl; omega
    · intro o j w; unfold SPl; omega
    · intro o j w; unfold SPl; omega
  · unfold f_Plan_refresh
    rw [if_neg (by rw [q]; decide)]
    exact ⟨m, rfl, i, k⟩
/-! arguments -/
def Rng (z : Int) : Prop := -2147483648 ≤ z ∧ z < 2147483648
theorem arg (x : Int32) : ∃ z : Int, Rng z ∧ x = iI z := by
  obtain ⟨z, h1, h2, h3⟩ := iI_ex x
  exact ⟨z, ⟨h1, h2⟩, h3⟩
theorem in_eq {z lo hi : Int} {m : Me} (hz : Rng z) (h1 : Rng lo) (h2 : Rng hi) : f_Mo_in (iI z) (iI lo) (iI hi) m = some (bI (decide (lo ≤ z ∧ z ≤ hi))) := by
  unfold f_Mo_in
  simp only [iI_lt hz.1 hz.2 h1.1 h1.2, iI_lt h2.1 h2.2 hz.1 hz.2]
  by_cases c1 : z < lo
  · rw [if_pos c1, decide_eq_false (by omega)]; rfl
  · rw [if_neg c1]
    by_cases c2 : hi < z
    · rw [if_pos c2, decide_eq_false (by omega)]; rfl
    · rw [if_neg c2, decide_eq_true (by omega)]; rfl
theorem within_eq {z lo hi : Int} {m : Me} (hz : Rng z) (h1 : Rng lo) (h2 : Rng hi) : f_NC_within (iI z) (iI lo) (iI hi) m = some (bI (decide (lo ≤ z ∧ z ≤ hi))) := in_eq (m := m) hz h1 h2
theorem zg_b (b : Bool) : zg (bI b) (bI b) = some (bI b) := by
  unfold zg
  rw [if_pos (bI_01 b)]
theorem kind_eq {z : Int} {m : Me} (hz : Rng z) : f_NC_isKind (iI z) m = some (bI (decide (0 ≤ z ∧ z ≤ 3))) := by
  unfold f_NC_isKind
  rw [show f_NC_within (iI z) 0 3 m = _ from within_eq (lo := 0) (hi := 3) hz (by unfold Rng; omega) (by unfold Rng; omega)]
  exact zg_b _
theorem zoom_eq {z : Int} {m : Me} (hz : Rng z) : f_NC_isZoom (iI z) m = some (bI (decide (0 ≤ z ∧ z ≤ 6))) := by
  unfold f_NC_isZoom
  rw [show f_NC_within (iI z) 0 6 m = _ from within_eq (lo := 0) (hi := 6) hz (by unfold Rng; omega) (by unfold Rng; omega)]
  exact zg_b _
def plB (x y : Int) : Bool := decide (0 ≤ x ∧ x ≤ 1000) && decide (0 ≤ y ∧ y ≤ 1000)
theorem place_eq {x y : Int} {m : Me} (hx : Rng x) (hy : Rng y) : f_NC_isPlace (iI x) (iI y) m = some (bI (plB x y)) := by
  unfold f_NC_isPlace plB
  rw [show f_NC_within (iI x) 0 1000 m = _ from within_eq (lo := 0) (hi := 1000) hx (by unfold Rng; omega) (by unfold Rng; omega), show f_NC_within (iI y) 0 1000 m = _ from within_eq (lo := 0) (hi := 1000) hy (by unfold Rng; omega) (by unfold Rng; omega)]
  simp only [cP, bI_z]
  generalize decide (0 ≤ x ∧ x ≤ 1000) = b1
  generalize decide (0 ≤ y ∧ y ≤ 1000) = b2
  cases b1 <;> cases b2 <;> rfl
theorem moPlace_eq {x y : Int} {m : Me} (hx : Rng x) (hy : Rng y) : f_Mo_isPlace (iI x) (iI y) m = some (bI (plB x y)) := place_eq (m := m) hx hy
def nmB (n : Nat) (x : Int) : Bool := decide (0 ≤ x ∧ x < (n : Int))
theorem has_eq {x : Int} {n : Nat} {m : Me} (hx : Rng x) (hn : n ≤ 24) (h : m.1 10 0 = nI n) : f_Chart_has (iI x) m = some (bI (nmB n x)) := by
  unfold f_Chart_has nmB
  rw [h, nI_i]
  simp only [show (0 : Int32) = iI 0 from rfl, iI_lt hx.1 hx.2 (show -2147483648 ≤ (0 : Int) by omega) (show (0 : Int) < 2147483648 by omega), iI_le (show -2147483648 ≤ (n : Int) by omega) (show (n : Int) < 2147483648 by omega) hx.1 hx.2]
  by_cases c1 : x < 0
  · rw [if_pos c1, decide_eq_false (by omega)]; rfl
  · rw [if_neg c1]
    by_cases c2 : (n : Int) ≤ x
    · rw [if_pos c2, decide_eq_false (by omega)]; rfl
    · rw [if_neg c2, decide_eq_true (by omega)]; rfl
theorem name_eq {x : Int} {n : Nat} {m : Me} (hx : Rng x) (hn : n ≤ 24) (h : m.1 200 1 = nI n) : f_Mo_isName (iI x) m = some (bI (nmB n x)) := by
  unfold f_Mo_isName nmB
  rw [h, nI_i, show iI (n : Int) - (1 : Int32) = iI ((n : Int) - 1) from iI_sub _ 1, show f_Mo_in (iI x) 0 _ m = _ from in_eq (lo := 0) (hi := (n : Int) - 1) hx (by unfold Rng; omega) (by unfold Rng; omega)]
  simp only [cP]
  rw [zg_b]
  congr 3
  exact propext ⟨fun w => by omega, fun w => by omega⟩
def hwB (n : Nat) (a : Ch) (x y : Int) : Bool := nmB n x && decide (0 ≤ y ∧ y < (waysS a x.toNat : Int))
theorem nm_get {n : Nat} {x : Int} (h : nmB n x = true) : ∃ i : Nat, i < n ∧ x = i := by
  unfold nmB at h
  have := of_decide_eq_true h
  exact ⟨x.toNat, by omega, by omega⟩
theorem hw_get {n : Nat} {a : Ch} {x y : Int} (h : hwB n a x y = true) : ∃ i w : Nat, i < n ∧ w < waysS a i ∧ x = i ∧ y = w := by
  unfold hwB at h
  rw [Bool.and_eq_true] at h
  obtain ⟨i, hi, rfl⟩ := nm_get h.1
  have := of_decide_eq_true h.2
  exact ⟨i, y.toNat, hi, by rw [Int.toNat_natCast] at this; omega, rfl, by omega⟩
theorem hasWay_eq {x y : Int} {m : Me} {n d : Nat} {a : Ch} (hx : Rng x) (hy : Rng y) (hV : VV n d a) (hC : CC m 10 n d a) : f_Chart_hasWay (iI x) (iI y) m = some (bI (hwB n a x y)) := by
  unfold f_Chart_hasWay hwB
  rw [has_eq hx hV.1 hC.1]
  simp only [cP, bI_z]
  cases hb : nmB n x with
  | false => rw [if_pos rfl]; rfl
  | true =>
    obtain ⟨i, hi, rfl⟩ := nm_get hb
    have w16 := waysS_le (a := a) (i := i)
    rw [if_neg (by decide), Bool.true_and, Int.toNat_natCast, ← nI_i, ways_eq hV hC hi, nI_i]
    simp only [show (0 : Int32) = iI 0 from rfl, iI_lt hy.1 hy.2 (show -2147483648 ≤ (0 : Int) by omega) (show (0 : Int) < 2147483648 by omega), iI_le (show -2147483648 ≤ (waysS a i : Int) by omega) (show (waysS a i : Int) < 2147483648 by omega) hy.1 hy.2]
    by_cases c1 : y < 0
    · rw [if_pos c1, decide_eq_false (by omega)]; rfl
    · rw [if_neg c1]
      by_cases c2 : (waysS a i : Int) ≤ y
      · rw [if_pos c2, decide_eq_false (by omega)]; rfl
      · rw [if_neg c2, decide_eq_true (by omega)]; rfl
theorem isWay_eq {x y : Int} {m : Me} {n d : Nat} {a : Ch} (hx : Rng x) (hy : Rng y) (hV : VV n d a) (hM : MM m n d a) : f_Mo_isWay (iI x) (iI y) m = some (bI (hwB n a x y)) := by
  unfold f_Mo_isWay hwB
  rw [name_eq hx hV.1 hM.1]
  simp only [cP, bI_z]
  cases hb : nmB n x with
  | false => rw [if_pos rfl]; rfl
  | true =>
    obtain ⟨i, hi, rfl⟩ := nm_get hb
    have w16 := waysS_le (a := a) (i := i)
    rw [if_neg (by decide), Bool.true_and, Int.toNat_natCast, ← nI_i, moWays_eq hV hM hi]
    simp only []
    rw [nI_i, show iI (waysS a i : Int) - (1 : Int32) = iI ((waysS a i : Int) - 1) from iI_sub _ 1, show f_Mo_in (iI y) 0 _ m = _ from in_eq (lo := 0) (hi := (waysS a i : Int) - 1) hy (by unfold Rng; omega) (by unfold Rng; omega)]
    simp only [bI_z]
    by_cases c : 0 ≤ y ∧ y < (waysS a i : Int)
    · rw [if_neg (by simp; omega), decide_eq_true c]; rfl
    · rw [if_pos (by simp; omega), decide_eq_false c]; rfl
theorem pl_get {x y : Int} (h : plB x y = true) : ∃ i j : Nat, i ≤ 1000 ∧ j ≤ 1000 ∧ x = i ∧ y = j := by
  unfold plB at h
  rw [Bool.and_eq_true] at h
  have h1 := of_decide_eq_true h.1
  have h2 := of_decide_eq_true h.2
  exact ⟨x.toNat, y.toNat, by omega, by omega, by omega, by omega⟩
theorem in_get {x : Int} {lo hi : Nat} (h : decide ((lo : Int) ≤ x ∧ x ≤ (hi : Int)) = true) : ∃ i : Nat, lo ≤ i ∧ i ≤ hi ∧ x = i := by
  have h1 := of_decide_eq_true h
  exact ⟨x.toNat, by omega, by omega, by omega⟩
