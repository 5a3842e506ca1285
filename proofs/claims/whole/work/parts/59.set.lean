/-! PURE PART: a dot; what is in hand; undo -/
def up7 (a : Ch) (g : Nat → Nat) : Ch := fun k => if k = 7 then g else a k
theorem cl7 (a : Ch) (g : Nat → Nat) : clB (up7 a g) = clB a := rfl
theorem op7 (n d : Nat) (a : Ch) (g : Nat → Nat) : opB n d (up7 a g) = opB n d a := rfl
theorem ow7 (n d : Nat) (a : Ch) (g : Nat → Nat) : owB n d (up7 a g) = owB n d a := by
  funext i w
  unfold owB
  rw [op7]
  rfl
theorem tc7 (n d : Nat) (a : Ch) (g : Nat → Nat) : tcB n d (up7 a g) = tcB n d a := by
  funext i j
  unfold tcB
  rw [ow7, cl7]
theorem ah7 (a : Ch) (g : Nat → Nat) : ahB (up7 a g) = ahB a := rfl
theorem qq7 (a : Ch) (g : Nat → Nat) (x : Nat) : qS (up7 a g) x = qS a x := by
  induction x with
  | zero => rfl
  | succ x ih =>
    show insS (qS (up7 a g) x) x (pS (fun t => ahB (up7 a g) x (qS (up7 a g) x t)) x) = insS (qS a x) x (pS (fun t => ahB a x (qS a x t)) x)
    rw [ih, ah7]
theorem zm7 (n d : Nat) (a : Ch) (g : Nat → Nat) : zmB n d (up7 a g) = zmB n d a := by
  funext F x w
  unfold zmB fitB
  rw [op7, cl7]
theorem pl7 (n d : Nat) (a : Ch) (g : Nat → Nat) (i : Nat) : plS n d (up7 a g) i = plS n d a i := by
  induction i with
  | zero => rfl
  | succ i ih =>
    funext o
    show (if o = qS (up7 a g) n i then stF (zmB n d (up7 a g) (plS n d (up7 a g) i) (qS (up7 a g) n i)) (waysS (up7 a g) (qS (up7 a g) n i)) else plS n d (up7 a g) i o) = (if o = qS a n i then stF (zmB n d a (plS n d a i) (qS a n i)) (waysS a (qS a n i)) else plS n d a i o)
    rw [ih, qq7, zm7]
    rfl
theorem LK7 {m : Me} {n d : Nat} {a : Ch} {g : Nat → Nat} (h : LK m n d a) : LK m n d (up7 a g) := by
  intro i hi
  refine ⟨(h i hi).1, fun w => ?_⟩
  rw [ow7]
  exact (h i hi).2 w
theorem LY7 {m : Me} {n d : Nat} {a : Ch} {g : Nat → Nat} (h : LY m n d a) : LY m n d (up7 a g) := by
  rcases h with h | ⟨h, k⟩
  · exact Or.inl h
  · exact Or.inr ⟨h, LK7 k⟩
theorem PT7 {m : Me} {n d : Nat} {a : Ch} {g : Nat → Nat} (h : PT m n d a) : PT m n d (up7 a g) := by
  unfold PT PK at *
  rw [tc7]
  exact h
theorem PL7 {m : Me} {n d : Nat} {a : Ch} {g : Nat → Nat} (h : PL m n d a) : PL m n d (up7 a g) := by
  unfold PL at *
  rw [pl7]
  exact h
theorem VV7 {n d : Nat} {a : Ch} {g : Nat → Nat} (hV : VV n d a) (hg : ∀ j, j < n → g j = 16 ∨ g j < waysS a j) : VV n d (up7 a g) :=
  ⟨hV.1, hV.2.1, fun j hj => ⟨(hV.2.2.1 j hj).1, hg j hj⟩, hV.2.2.2⟩
theorem CC7 {m m' : Me} {n d : Nat} {a : Ch} {g : Nat → Nat} (h : CC m 10 n d a) (f : Fm (fun o _ => o = 17) m m') (hg : ∀ j, j < n → m'.1 17 j = hI (g j)) : CC m' 10 n d (up7 a g) := by
  obtain ⟨c1, c2, c3, c4, c5⟩ := h
  refine ⟨by rw [f _ _ (by omega)]; exact c1, by rw [f _ _ (by omega)]; exact c2, ?_, hg, ?_⟩
  · intro k i k1 k2 hi
    rw [f _ _ (by omega), show up7 a g k = a k by unfold up7; rw [if_neg (by omega)]]
    exact c3 k i k1 k2 hi
  · intro i hi
    rw [f _ _ (by omega), f _ _ (by omega)]
    exact c5 i hi
theorem MM7 {S : Nat → Nat → Prop} {m m' : Me} {n d : Nat} {a : Ch} {g : Nat → Nat} (h : MM m n d a) (f : Fm S m m') (g0 : ¬ S 200 1) (g1 : ¬ S 200 2) (g2 : ∀ o j, 201 ≤ o → o ≤ 209 → o ≠ 207 → ¬ S o j) (hg : ∀ j, j < n → m'.1 207 j = nI (g j)) : MM m' n d (up7 a g) := by
  obtain ⟨c1, c2, c3, c5⟩ := h
  refine ⟨by rw [f _ _ g0]; exact c1, by rw [f _ _ g1]; exact c2, ?_, ?_⟩
  · intro k i k1 k2 hi
    by_cases q : k = 7
    · subst q
      exact hg i hi
    · rw [f _ _ (g2 _ _ (by omega) (by omega) (by omega)), show up7 a g k = a k by unfold up7; rw [if_neg q]]
      exact c3 k i k1 k2 hi
  · intro i hi
    rw [f _ _ (g2 _ _ (by omega) (by omega) (by omega)), f _ _ (g2 _ _ (by omega) (by omega) (by omega))]
    exact c5 i hi
/-- a change of what is in hand -/
theorem chg7 {m m3 m4 m5 m6 : Me} {n d : Nat} {a : Ch} {e h : Nat} {H : Hs} {g : Nat → Nat} {S : Nat → Nat → Prop} (iv : Iv m n d a e h H) (hg : ∀ j, j < n → g j = 16 ∨ g j < waysS a j)
    (C3 : CC m3 10 n d a) (hc3 : HC m3 ((e + 1) % 8) (mn8 h) (hup H e n d a)) (l3 : LY m3 n d a) (p3 : PT m3 n d a) (q3 : PL m3 n d a)
    (f4 : Fm (fun o _ => o = 17) m3 m4) (r4 : ∀ j, j < n → m4.1 17 j = hI (g j))
    (hm5 : HM m5 ((e + 1) % 8) (mn8 h) (hup H e n d a)) (M5 : MM m5 n d a) (f5 : Fm SMo m4 m5)
    (f6 : Fm S m5 m6) (hS : ∀ o j, S o j → (o = 207 ∨ SMq o j)) (r6 : ∀ j, j < n → m6.1 207 j = nI (g j)) : Inv m6 := by
  obtain ⟨i1, i2, i3, i4, i5, i6, i7, i8, i9⟩ := iv
  have V4 : VV n d (up7 a g) := VV7 i1 hg
  have C4 : CC m4 10 n d (up7 a g) := CC7 C3 f4 r4
  have M6 : MM m6 n d (up7 a g) := MM7 M5 f6 (fun w => by have := hS _ _ w; unfold SMq at this; omega) (fun w => by have := hS _ _ w; unfold SMq at this; omega) (fun o j _ _ _ w => by have := hS _ _ w; unfold SMq at this; omega) r6
  refine chg V4 C4 (hc3.fr f4 (fun o j _ => by omega)) (i4.up i1) (LY7 (l3.fr i1 f4 (by omega) (fun o j _ => by omega))) (PT7 (p3.fr f4 (fun o j _ => by omega))) (PL7 (q3.fr f4 (fun o j _ => by omega))) (f5.tr (f6.mo (fun o j w => ?_))) M6 (hm5.fr (i4.up i1) f6 (fun w => by have := hS _ _ w; unfold SMq at this; omega) (fun w => by have := hS _ _ w; unfold SMq at this; omega) (fun j w => by have := hS _ _ w; unfold SMq at this; omega))
  have := hS _ _ w
  unfold SMq at this
  unfold SMo
  omega
theorem keep7 {m : Me} {n d : Nat} {a : Ch} {e h : Nat} {H : Hs} (i : Iv m n d a e h H) : ∃ m3, f_Hist_keep m = some m3 ∧ CC m3 10 n d a ∧ HC m3 ((e + 1) % 8) (mn8 h) (hup H e n d a) ∧ LY m3 n d a ∧ PT m3 n d a ∧ PL m3 n d a ∧ Fm SKC m m3 := by
  obtain ⟨i1, i2, i3, i4, i5, i6, i7, i8, i9⟩ := i
  obtain ⟨m3, e3, hc3, C3, f3⟩ := keepC i1 i2 i4 i5
  exact ⟨m3, e3, C3, hc3, i7.fr i1 f3 (by unfold SKC; omega) (fun o j _ => by unfold SKC; omega), i8.fr f3 (fun o j _ => by unfold SKC; omega), i9.fr f3 (fun o j _ => by unfold SKC; omega), f3⟩
theorem hI_16 {h : Nat} : (if nI h = (16 : Int32) then (-1 : Int32) else nI h) = hI h ∨ ¬ h ≤ 16 := by
  by_cases q : h ≤ 16
  · left
    unfold hI
    by_cases c : h = 16
    · subst c; rfl
    · rw [if_neg c, if_neg (show ¬ nI h = (16 : Int32) from nI_ne (b := 16) (by omega) (by decide) c)]
  · exact Or.inr q
theorem a7_le {n d : Nat} {a : Ch} {i : Nat} (hV : VV n d a) (hi : i < n) : a 7 i ≤ 16 := by
  have := waysS_le (a := a) (i := i)
  rcases (hV.2.2.1 i hi).2 with q | q <;> omega
set_option maxHeartbeats 1000000 in
theorem c_set {m : Me} (hI' : Inv m) (x0 y0 : Int32) : PairI (f_NC_set x0 y0 m) (f_Mo_set x0 y0) := by
  obtain ⟨n, d, a, e, h, H, i⟩ := hI'
  obtain ⟨i1, i2, i3, i4, i5, i6, i7, i8, i9⟩ := id i
  obtain ⟨x, hx, rfl⟩ := arg x0
  obtain ⟨y, hy, rfl⟩ := arg y0
  have n24 := i1.1
  unfold f_NC_set
  rw [hasWay_eq hx hy i1 i2]
  simp only [cP, bI_z]
  cases hb : hwB n a x y with
  | false =>
    rw [if_pos rfl]
    refine ⟨-3, m, si m 200 0 0, rfl, ?_, _, _, _, _, _, _, i.m0⟩
    unfold f_Mo_set
    simp only [bd]
    rw [isWay_eq hx hy i1 (i.m0).2.2.1]
    simp only [cP, bI_z]
    rw [hb, if_pos rfl]
  | true =>
    obtain ⟨ix, w, hix, hw, rfl, rfl⟩ := hw_get hb
    have w16 := waysS_le (a := a) (i := ix)
    rw [if_neg (by decide)]
    obtain ⟨m3, e3, C3, hc3, l3, p3, q3, f3⟩ := keep7 i
    rw [e3]
    simp only []
    have f4 : Fm (fun o _ => o = 17) m3 (si m3 17 ix (nI w)) := Fm.wr (S := fun o _ => o = 17) rfl
    have w4 : Fm SCl m (si m3 17 ix (nI w)) := (f3.mo (fun o j w => by unfold SKC at w; unfold SCl; omega)).tr (f4.mo (fun o j w => by unfold SCl; omega))
    obtain ⟨M4, hm4', m5, e5, hm5, M5, f5⟩ := toM i w4
    have f6 : Fm (fun o _ => o = 207) m5 (si m5 207 ix (nI w)) := Fm.wr (S := fun o _ => o = 207) rfl
    refine ⟨hI (a 7 ix), si m3 17 ix (nI w), si m5 207 ix (nI w), ?_, ?_, ?_⟩
    · rw [← nI_i ix, ← nI_i w, show ln 17 = 24 from rfl, rd_n (by omega) (by omega), wi_n (by omega) (by omega), show m3.1 17 ix = hI (a 7 ix) from C3.2.2.2.1 ix hix]
    · unfold f_Mo_set
      simp only [bd]
      rw [isWay_eq hx hy i1 (M4.fr (Fm.wr (S := fun o j => o = 200 ∧ j = 0) ⟨rfl, rfl⟩) (by omega) (by omega) (fun o j _ _ => by omega))]
      simp only [cP, bI_z]
      rw [hb, if_neg (by decide), e5]
      simp only []
      rw [← nI_i ix, ← nI_i w, show ln 207 = 24 from rfl, rd_n (by omega) (by omega), wi_n (by omega) (by omega), show m5.1 207 ix = nI (a 7 ix) from M5.2.2.1 7 ix (by omega) (by omega) hix]
      have a7 := a7_le i1 hix
      by_cases c : a 7 ix = 16
      · rw [c]; rfl
      · rw [if_neg (show ¬ nI (a 7 ix) = (16 : Int32) from nI_ne (b := 16) (by omega) (by decide) c), hI_lt (by omega)]
    · refine chg7 (g := fun j => if j = ix then w else a 7 j) i ?_ C3 hc3 l3 p3 q3 f4 ?_ hm5 M5 f5 f6 (fun o j q => Or.inl q) ?_
      · intro j hj
        show (if j = ix then w else a 7 j) = 16 ∨ (if j = ix then w else a 7 j) < waysS a j
        by_cases q : j = ix
        · subst q; rw [if_pos rfl]; exact Or.inr hw
        · rw [if_neg q]; exact (i1.2.2.1 j hj).2
      · intro j hj
        show _ = hI (if j = ix then w else a 7 j)
        rw [si1]
        by_cases q : j = ix
        · subst q; rw [if_pos rfl, if_pos ⟨rfl, rfl⟩, hI_lt (by omega)]
        · rw [if_neg q, if_neg (by omega)]; exact C3.2.2.2.1 j hj
      · intro j hj
        show _ = nI (if j = ix then w else a 7 j)
        rw [si1]
        by_cases q : j = ix
        · subst q; rw [if_pos rfl, if_pos ⟨rfl, rfl⟩]
        · rw [if_neg q, if_neg (by omega)]; exact M5.2.2.1 7 j (by omega) (by omega) hj
set_option maxHeartbeats 1000000 in
theorem c_free {m : Me} (hI' : Inv m) (x0 : Int32) : PairI (f_NC_free x0 m) (f_Mo_free x0) := by
  obtain ⟨n, d, a, e, h, H, i⟩ := hI'
  obtain ⟨i1, i2, i3, i4, i5, i6, i7, i8, i9⟩ := id i
  obtain ⟨x, hx, rfl⟩ := arg x0
  have n24 := i1.1
  unfold f_NC_free
  rw [has_eq hx n24 i2.1]
  simp only [cP, bI_z]
  cases hb : nmB n x with
  | false =>
    rw [if_pos rfl]
    refine ⟨-3, m, si m 200 0 0, rfl, ?_, _, _, _, _, _, _, i.m0⟩
    unfold f_Mo_free
    simp only [bd]
    rw [name_eq hx n24 (i.m0).2.2.1.1]
    simp only [cP, bI_z]
    rw [hb, if_pos rfl]
  | true =>
    obtain ⟨ix, hix, rfl⟩ := nm_get hb
    have a7 := a7_le i1 hix
    rw [if_neg (by decide), ← nI_i ix, show ln 17 = 24 from rfl, rd_n (by omega) (by omega), show m.1 17 ix = hI (a 7 ix) from i2.2.2.2.1 ix hix]
    by_cases c : a 7 ix = 16
    · rw [c, if_pos (show hI 16 = (-1 : Int32) from rfl)]
      refine ⟨-4, m, si m 200 0 0, rfl, ?_, _, _, _, _, _, _, i.m0⟩
      unfold f_Mo_free
      simp only [bd]
      rw [nI_i ix, name_eq hx n24 (i.m0).2.2.1.1]
      simp only [cP, bI_z]
      rw [hb, if_neg (by decide), ← nI_i ix, show ln 207 = 24 from rfl, rd_n (by omega) (by omega), show (si m 200 0 0).1 207 ix = nI (a 7 ix) from (i.m0).2.2.1.2.2.1 7 ix (by omega) (by omega) hix, c]
      rfl
    · rw [hI_lt (by omega), if_neg (nI_n1 (by omega))]
      obtain ⟨m3, e3, C3, hc3, l3, p3, q3, f3⟩ := keep7 i
      rw [e3]
      simp only []
      have f4 : Fm (fun o _ => o = 17) m3 (si m3 17 ix (-1)) := Fm.wr (S := fun o _ => o = 17) rfl
      have w4 : Fm SCl m (si m3 17 ix (-1)) := (f3.mo (fun o j w => by unfold SKC at w; unfold SCl; omega)).tr (f4.mo (fun o j w => by unfold SCl; omega))
      obtain ⟨M4, hm4', m5, e5, hm5, M5, f5⟩ := toM i w4
      have f6 : Fm (fun o _ => o = 207) m5 (si m5 207 ix 16) := Fm.wr (S := fun o _ => o = 207) rfl
      have M40 := M4.fr (Fm.wr (m := si m3 17 ix (-1)) (v := 0) (S := fun o j => o = 200 ∧ j = 0) ⟨rfl, rfl⟩) (by omega) (by omega) (fun o j _ _ => by omega)
      refine ⟨nI (a 7 ix), si m3 17 ix (-1), si m5 207 ix 16, ?_, ?_, ?_⟩
      · rw [wi_n (by omega) (by omega)]
      · unfold f_Mo_free
        simp only [bd]
        rw [nI_i ix, name_eq hx n24 M40.1]
        simp only [cP, bI_z]
        rw [hb, if_neg (by decide), ← nI_i ix, show ln 207 = 24 from rfl, rd_n (by omega) (by omega), show (si (si m3 17 ix (-1)) 200 0 0).1 207 ix = nI (a 7 ix) from M40.2.2.1 7 ix (by omega) (by omega) hix, if_neg (show ¬ nI (a 7 ix) = (16 : Int32) from nI_ne (b := 16) (by omega) (by decide) c), e5]
        simp only []
        rw [rd_n (by omega) (by omega), wi_n (by omega) (by omega), show m5.1 207 ix = nI (a 7 ix) from M5.2.2.1 7 ix (by omega) (by omega) hix]
      · refine chg7 (g := fun j => if j = ix then 16 else a 7 j) i ?_ C3 hc3 l3 p3 q3 f4 ?_ hm5 M5 f5 f6 (fun o j q => Or.inl q) ?_
        · intro j hj
          show (if j = ix then 16 else a 7 j) = 16 ∨ (if j = ix then 16 else a 7 j) < waysS a j
          by_cases q : j = ix
          · rw [if_pos q]; exact Or.inl rfl
          · rw [if_neg q]; exact (i1.2.2.1 j hj).2
        · intro j hj
          show _ = hI (if j = ix then 16 else a 7 j)
          rw [si1]
          by_cases q : j = ix
          · subst q; rw [if_pos rfl, if_pos ⟨rfl, rfl⟩]; rfl
          · rw [if_neg q, if_neg (by omega)]; exact C3.2.2.2.1 j hj
        · intro j hj
          show _ = nI (if j = ix then 16 else a 7 j)
          rw [si1]
          by_cases q : j = ix
          · subst q; rw [if_pos rfl, if_pos ⟨rfl, rfl⟩]; rfl
          · rw [if_neg q, if_neg (by omega)]; exact M5.2.2.1 7 j (by omega) (by omega) hj
theorem c_undo {m : Me} (hI' : Inv m) : PairI (f_NC_undo m) f_Mo_undo := by
  obtain ⟨n, d, a, e, h, H, i⟩ := hI'
  obtain ⟨i1, i2, i3, i4, i5, i6, i7, i8, i9⟩ := id i
  obtain ⟨v1, v2, v3⟩ := id i4
  unfold f_NC_undo
  rw [i5.2.1]
  by_cases c : h = 0
  · subst c
    rw [if_pos (show nI 0 = 0 from rfl)]
    refine ⟨-4, m, si m 200 0 0, rfl, ?_, _, _, _, _, _, _, i.m0⟩
    unfold f_Mo_undo
    simp only [bd]
    rw [show (si m 200 0 0).1 200 14 = nI 0 by rw [si1, if_neg (by omega)]; exact i6.2.1, if_pos (show nI 0 = 0 from rfl)]
  · rw [if_neg (nI_ne0 (by omega) (by omega))]
    obtain ⟨m1, e1, hc1, C1, f1⟩ := backC (n := n) (d := d) (a := a) i4 i5 (by omega)
    obtain ⟨m2, e2, z1, z2, z3, f2⟩ := forget_q (m := m1)
    rw [e1]
    simp only [cP]
    rw [e2]
    simp only []
    have w2 : Fm SCl m m2 := (f1.mo (fun o j w => by unfold SCl; omega)).tr (f2.mo (fun o j w => by unfold SCl; omega))
    have hM2 : HM m2 e h H := i6.fr i4 w2 (by unfold SCl; omega) (by unfold SCl; omega) (fun j => by unfold SCl; omega)
    have lx : live e h ((e + 7) % 8) := by unfold live; omega
    have Vx := v3 _ (show (e + 7) % 8 < 8 by omega) lx
    obtain ⟨m3, e3, M3, f3, p13, p14⟩ := undoM_ok Vx v1 v2 (by omega) rfl (hM2.2.2 _ (by omega) lx) hM2.1 hM2.2.1
    have hc2 : HC m2 ((e + 7) % 8) (h - 1) H := hc1.fr f2 (fun o j _ => by omega)
    refine ⟨nI (h - 1), m2, m3, by rw [hc2.2.1], e3, ?_⟩
    refine chg Vx (C1.fr f2 (fun o j _ _ => by omega)) hc2 (i4.dn (by omega)) (Or.inl z1) (Or.inl z2) (Or.inl z3) (f3.mo (fun o j w => by unfold SUU at w; unfold SMo; omega)) M3 ⟨p13, p14, fun s hs l => ?_⟩
    obtain ⟨l1, l2⟩ := live_dn v1 v2 (by omega) hs l
    exact (hM2.2.2 s hs l1).fr (v3 s hs l1) f3 (fun j _ _ => by unfold SUU; omega)
def dtA (a : Ch) (d X Y : Nat) : Ch := fun k j => if k = 8 ∧ j = d then X else if k = 9 ∧ j = d then Y else a k j
set_option maxHeartbeats 1000000 in
theorem c_dot {m : Me} (hI' : Inv m) (x0 y0 : Int32) : PairI (f_NC_dot x0 y0 m) (f_Mo_dot x0 y0) := by
  obtain ⟨n, d, a, e, h, H, i⟩ := hI'
  obtain ⟨i1, i2, i3, i4, i5, i6, i7, i8, i9⟩ := id i
  obtain ⟨x, hx, rfl⟩ := arg x0
  obtain ⟨y, hy, rfl⟩ := arg y0
  have d20 := i1.2.1
  unfold f_NC_dot
  rw [place_eq hx hy]
  simp only [cP, bI_z]
  cases hp : plB x y with
  | false =>
    rw [if_pos rfl]
    refine ⟨-3, m, si m 200 0 0, rfl, ?_, _, _, _, _, _, _, i.m0⟩
    unfold f_Mo_dot
    simp only [bd]
    rw [moPlace_eq hx hy]
    simp only [cP, bI_z]
    rw [hp, if_pos rfl]
  | true =>
    obtain ⟨X, Y, hX, hY, rfl, rfl⟩ := pl_get hp
    rw [if_neg (by decide), i2.2.1]
    by_cases c : d < 20
    · rw [if_pos (show nI d < (20 : Int32) from nI_lt (b := 20) c (by decide))]
      obtain ⟨m3, e3, C3, hc3, z1, z2, z3, f3⟩ := redraw_q i
      rw [e3]
      simp only []
      have f4 : Fm (fun o j => (o = 18 ∧ j = d) ∨ (o = 19 ∧ j = d) ∨ (o = 10 ∧ j = 1)) m3 (si (si (si m3 18 d (nI X)) 19 d (nI Y)) 10 1 (nI (d + 1))) := ((Fm.wr (by omega)).wr' (by omega)).wr' (by omega)
      have w4 : Fm SCl m (si (si (si m3 18 d (nI X)) 19 d (nI Y)) 10 1 (nI (d + 1))) := (f3.mo (fun o j w => by unfold SRd at w; unfold SCl; omega)).tr (f4.mo (fun o j w => by unfold SCl; omega))
      obtain ⟨M4, hm4', m5, e5, hm5, M5, f5⟩ := toM i w4
      have f6 : Fm (fun o j => (o = 208 ∧ j = d) ∨ (o = 209 ∧ j = d) ∨ (o = 200 ∧ j = 2)) m5 (si (si (si m5 208 d (nI X)) 209 d (nI Y)) 200 2 (nI (d + 1))) := ((Fm.wr (by omega)).wr' (by omega)).wr' (by omega)
      refine ⟨nI d, si (si (si m3 18 d (nI X)) 19 d (nI Y)) 10 1 (nI (d + 1)), si (si (si m5 208 d (nI X)) 209 d (nI Y)) 200 2 (nI (d + 1)), ?_, ?_, ?_⟩
      · unfold f_Chart_addDot
        rw [C3.2.1, show ln 18 = 20 from rfl, show ln 19 = 20 from rfl, wi_n c (by omega), show (si m3 18 d (iI (X : Int))).1 10 1 = nI d by rw [si1, if_neg (by omega)]; exact C3.2.1, wi_n c (by omega)]
        simp only [bd, cI]
        rw [show (si (si m3 18 d (iI (X : Int))) 19 d (iI (Y : Int))).1 10 1 = nI d by rw [si1, if_neg (by omega), si1, if_neg (by omega)]; exact C3.2.1, show nI d + (1 : Int32) = nI (d + 1) from nI_1 _, ← nI_i, ← nI_i]
      · unfold f_Mo_dot
        simp only [bd]
        rw [moPlace_eq hx hy]
        simp only [cP, bI_z]
        rw [hp, if_neg (by decide), q02, M4.2.1, if_neg (show ¬ nI d = (20 : Int32) from nI_ne (b := 20) (by omega) (by decide) (by omega)), e5]
        simp only []
        rw [M5.2.1, show ln 208 = 20 from rfl, show ln 209 = 20 from rfl, wi_n c (by omega), show (si m5 208 d (iI (X : Int))).1 200 2 = nI d by rw [si1, if_neg (by omega)]; exact M5.2.1, wi_n c (by omega)]
        rw [show (si (si m5 208 d (iI (X : Int))) 209 d (iI (Y : Int))).1 200 2 = nI d by rw [si1, if_neg (by omega), si1, if_neg (by omega)]; exact M5.2.1, show nI d + (1 : Int32) = nI (d + 1) from nI_1 _, si_s, show nI (d + 1) - (1 : Int32) = nI d from nI_pred d, ← nI_i, ← nI_i]
      · have V4 : VV n (d + 1) (dtA a d X Y) := by
          refine ⟨i1.1, by omega, i1.2.2.1, fun j hj => ?_⟩
          unfold dtA
          by_cases q : j = d
          · subst q
            simp
            exact ⟨hX, hY⟩
          · simp [q]
            exact i1.2.2.2 j (by omega)
        refine chg V4 ?_ (hc3.fr f4 (fun o j _ => by omega)) (i4.up i1) (Or.inl (by rw [f4 _ _ (by omega)]; exact z1)) (Or.inl (by rw [f4 _ _ (by omega)]; exact z2)) (Or.inl (by rw [f4 _ _ (by omega)]; exact z3)) (f5.tr (f6.mo (fun o j w => by unfold SMo; omega))) ?_ (hm5.fr (i4.up i1) f6 (by omega) (by omega) (fun j => by omega))
        · refine ⟨by rw [f4 _ _ (by omega)]; exact C3.1, si_s, fun k j k1 k2 hj => ?_, fun j hj => ?_, fun j hj => ?_⟩
          · rw [f4 _ _ (by omega), show dtA a d X Y k j = a k j by unfold dtA; rw [if_neg (by omega), if_neg (by omega)]]
            exact C3.2.2.1 k j k1 k2 hj
          · rw [f4 _ _ (by omega)]
            exact C3.2.2.2.1 j hj
          · by_cases q : j = d
            · subst q
              simp [si1, dtA]
            · rw [f4 _ _ (by omega), f4 _ _ (by omega)]
              simp [dtA, q]
              exact C3.2.2.2.2 j (by omega)
        · refine ⟨by rw [f6 _ _ (by omega)]; exact M5.1, si_s, fun k j k1 k2 hj => ?_, fun j hj => ?_⟩
          · rw [f6 _ _ (by omega), show dtA a d X Y k j = a k j by unfold dtA; rw [if_neg (by omega), if_neg (by omega)]]
            exact M5.2.2.1 k j k1 k2 hj
          · by_cases q : j = d
            · subst q
              simp [si1, dtA]
            · rw [f6 _ _ (by omega), f6 _ _ (by omega)]
              simp [dtA, q]
              exact M5.2.2.2 j (by omega)
    · have d20' : d = 20 := by omega
      subst d20'
      rw [if_neg (show ¬ nI 20 < (20 : Int32) by decide)]
      refine ⟨-5, m, si m 200 0 0, rfl, ?_, _, _, _, _, _, _, i.m0⟩
      unfold f_Mo_dot
      simp only [bd]
      rw [moPlace_eq hx hy]
      simp only [cP, bI_z]
      rw [hp, if_neg (by decide), q02, i3.2.1]
      rfl
