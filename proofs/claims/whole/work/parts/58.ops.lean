/-! PURE PART: the other calls that change names and dots; undo -/
theorem toM {m m4 : Me} {n d : Nat} {a : Ch} {e h : Nat} {H : Hs} (i : Iv m n d a e h H) (w4 : Fm SCl m m4) : MM m4 n d a ∧ HM m4 e h H ∧ ∃ m5, f_Mo_keep (si m4 200 0 0) = some m5 ∧ HM m5 ((e + 1) % 8) (mn8 h) (hup H e n d a) ∧ MM m5 n d a ∧ Fm SMo m4 m5 := by
  obtain ⟨i1, i2, i3, i4, i5, i6, i7, i8, i9⟩ := i
  have M4 : MM m4 n d a := i3.fr w4 (by unfold SCl; omega) (by unfold SCl; omega) (fun o j _ _ => by unfold SCl; omega)
  have hm4' : HM m4 e h H := i6.fr i4 w4 (by unfold SCl; omega) (by unfold SCl; omega) (fun j => by unfold SCl; omega)
  exact ⟨M4, hm4', mkeep_q i1 M4 i4 hm4'⟩
theorem q01 {m : Me} : (si m 200 0 0).1 200 1 = m.1 200 1 := by rw [si1, if_neg (by omega)]
theorem q02 {m : Me} : (si m 200 0 0).1 200 2 = m.1 200 2 := by rw [si1, if_neg (by omega)]
theorem fin_upd {m m3 m4 m5 m6 : Me} {n d : Nat} {a : Ch} {e h : Nat} {H : Hs} {i : Nat} {f : Nat → Nat} (iv : Iv m n d a e h H) (hi : i < n) (hf : OkR f)
    (C3 : CC m3 10 n d a) (hc3 : HC m3 ((e + 1) % 8) (mn8 h) (hup H e n d a)) (z1 : m3.1 3 2 = 0) (z2 : m3.1 6 4 = 0) (z3 : m3.1 105 5 = 0)
    (f4 : Fm (fun o j => 11 ≤ o ∧ o ≤ 17 ∧ j = i) m3 m4) (r4 : ∀ k, 1 ≤ k → k ≤ 6 → m4.1 (10 + k) i = nI (f k)) (r47 : m4.1 17 i = hI (f 7))
    (hm5 : HM m5 ((e + 1) % 8) (mn8 h) (hup H e n d a)) (M5 : MM m5 n d a) (f5 : Fm SMo m4 m5)
    (f6 : Fm (fun o j => 201 ≤ o ∧ o ≤ 207 ∧ j = i) m5 m6) (r6 : ∀ k, 1 ≤ k → k ≤ 7 → m6.1 (200 + k) i = nI (f k)) : Inv m6 := by
  obtain ⟨i1, i2, i3, i4, i5, i6, i7, i8, i9⟩ := iv
  have V4 : VV n d (upA a i f) := i1.upd hf (Or.inl ⟨hi, rfl⟩)
  have C4 : CC m4 10 n d (upA a i f) := C3.upd (Or.inl ⟨hi, rfl⟩) (by rw [f4 _ _ (by omega)]; exact C3.1) r4 r47 (fun o j _ _ w1 w2 => f4 o j (by omega)) (f4 _ _ (by omega))
  have M6 : MM m6 n d (upA a i f) := M5.upd (Or.inl ⟨hi, rfl⟩) (by rw [f6 _ _ (by omega)]; exact M5.1) r6 (fun o j _ _ w1 => f6 o j (by omega)) (f6 _ _ (by omega))
  exact chg V4 C4 (hc3.fr f4 (fun o j _ => by omega)) (i4.up i1) (Or.inl (by rw [f4 _ _ (by omega)]; exact z1)) (Or.inl (by rw [f4 _ _ (by omega)]; exact z2)) (Or.inl (by rw [f4 _ _ (by omega)]; exact z3)) (f5.tr (f6.mo (fun o j w => by unfold SMo; omega))) M6 (hm5.fr (i4.up i1) f6 (by omega) (by omega) (fun j => by omega))
set_option maxHeartbeats 1000000 in
theorem c_move {m : Me} (hI : Inv m) (x0 y0 z0 : Int32) : PairI (f_NC_move x0 y0 z0 m) (f_Mo_move x0 y0 z0) := by
  obtain ⟨n, d, a, e, h, H, i⟩ := hI
  obtain ⟨i1, i2, i3, i4, i5, i6, i7, i8, i9⟩ := id i
  obtain ⟨x, hx, rfl⟩ := arg x0
  obtain ⟨y, hy, rfl⟩ := arg y0
  obtain ⟨z, hz, rfl⟩ := arg z0
  have n24 := i1.1
  have cl : ∀ m', m'.1 200 1 = nI n → f_Mo_isName (iI x) (si m' 200 0 0) = some (bI (nmB n x)) := fun m' h' => name_eq hx n24 (by rw [q01]; exact h')
  unfold f_NC_move
  rw [has_eq hx n24 i2.1]
  simp only [cP, bd, bI_z]
  cases hb : nmB n x with
  | false =>
    rw [if_pos rfl]
    refine ⟨-3, m, si m 200 0 0, rfl, ?_, _, _, _, _, _, _, i.m0⟩
    unfold f_Mo_move
    simp only [bd]
    rw [cl m i3.1]
    simp only [cP, bI_z]
    rw [hb, if_pos rfl]
  | true =>
    obtain ⟨ix, hix, rfl⟩ := nm_get hb
    rw [if_neg (by decide)]
    rw [place_eq hy hz]
    simp only [bI_z]
    cases hb0 : plB y z with
    | false =>
      rw [if_pos rfl]
      refine ⟨-3, m, si m 200 0 0, rfl, ?_, _, _, _, _, _, _, i.m0⟩
      unfold f_Mo_move
      simp only [bd]
      rw [cl m i3.1]
      simp only [cP, bI_z]
      rw [hb, if_neg (by decide)]
      rw [moPlace_eq hy hz]
      simp only [bI_z]
      rw [hb0, if_pos rfl]
    | true =>
      rw [if_neg (by decide)]
      obtain ⟨X, Y, hX, hY, rfl, rfl⟩ := pl_get hb0
      simp only [← nI_i (X), ← nI_i (Y)]
      obtain ⟨m3, e3, C3, hc3, z1, z2, z3, f3⟩ := redraw_q i
      rw [e3]
      simp only []
      rw [← nI_i, show ln 12 = 24 from rfl, show ln 13 = 24 from rfl, wi_n (by omega) (by omega), wi_n (by omega) (by omega)]
      have f4 : Fm (fun o j => 11 ≤ o ∧ o ≤ 17 ∧ j = ix) m3 (si (si m3 12 ix (nI X)) 13 ix (nI Y)) := (Fm.wr (by omega)).wr' (by omega)
      have w4 : Fm SCl m (si (si m3 12 ix (nI X)) 13 ix (nI Y)) := (f3.mo (fun o j w => by unfold SRd at w; unfold SCl; omega)).tr (f4.mo (fun o j w => by unfold SCl; omega))
      generalize hm4 : si (si m3 12 ix (nI X)) 13 ix (nI Y) = m4 at *
      obtain ⟨M4, hm4', m5, e5, hm5, M5, f5⟩ := toM i w4
      have f6 : Fm (fun o j => 201 ≤ o ∧ o ≤ 207 ∧ j = ix) m5 (si (si m5 202 ix (nI X)) 203 ix (nI Y)) := (Fm.wr (by omega)).wr' (by omega)
      generalize hm6 : si (si m5 202 ix (nI X)) 203 ix (nI Y) = m6 at *
      refine ⟨0, m4, m6, rfl, ?_, ?_⟩
      · unfold f_Mo_move
        simp only [bd]
        rw [nI_i ix, nI_i X, nI_i Y, cl m4 M4.1]
        simp only [cP, bI_z]
        rw [hb, if_neg (by decide)]
        rw [moPlace_eq hy hz]
        simp only [bI_z]
        rw [hb0, if_neg (by decide)]
        rw [e5]
        simp only []
        rw [← nI_i, show ln 202 = 24 from rfl, show ln 203 = 24 from rfl, wi_n (by omega) (by omega), wi_n (by omega) (by omega)]
        simp only [← nI_i]
        rw [hm6]
      · refine fin_upd (f := fun r => if r = 2 then X else if r = 3 then Y else a r ix) i hix (by have k := ok_of i1 hix; obtain ⟨k1, k2, k3, k4, k5, k6, k7, k8, k9, k10⟩ := k; exact ⟨k1, hX, hY, k4, k5, k6, k7, k8, k9, k10⟩) C3 hc3 z1 z2 z3 f4 (all6 (by rw [← hm4, si1, if_neg (by omega), si1, if_neg (by omega)]; exact C3.2.2.1 1 ix (by omega) (by omega) hix) (by rw [← hm4]; simp [si1]) (by rw [← hm4]; simp [si1]) (by rw [← hm4, si1, if_neg (by omega), si1, if_neg (by omega)]; exact C3.2.2.1 4 ix (by omega) (by omega) hix) (by rw [← hm4, si1, if_neg (by omega), si1, if_neg (by omega)]; exact C3.2.2.1 5 ix (by omega) (by omega) hix) (by rw [← hm4, si1, if_neg (by omega), si1, if_neg (by omega)]; exact C3.2.2.1 6 ix (by omega) (by omega) hix)) (by rw [← hm4, si1, if_neg (by omega), si1, if_neg (by omega)]; exact C3.2.2.2.1 ix hix) hm5 M5 f5 f6 (all7 (by rw [← hm6, si1, if_neg (by omega), si1, if_neg (by omega)]; exact M5.2.2.1 1 ix (by omega) (by omega) hix) (by rw [← hm6]; simp [si1]) (by rw [← hm6]; simp [si1]) (by rw [← hm6, si1, if_neg (by omega), si1, if_neg (by omega)]; exact M5.2.2.1 4 ix (by omega) (by omega) hix) (by rw [← hm6, si1, if_neg (by omega), si1, if_neg (by omega)]; exact M5.2.2.1 5 ix (by omega) (by omega) hix) (by rw [← hm6, si1, if_neg (by omega), si1, if_neg (by omega)]; exact M5.2.2.1 6 ix (by omega) (by omega) hix) (by rw [← hm6, si1, if_neg (by omega), si1, if_neg (by omega)]; exact M5.2.2.1 7 ix (by omega) (by omega) hix))
set_option maxHeartbeats 1000000 in
theorem c_weigh {m : Me} (hI : Inv m) (x0 y0 : Int32) : PairI (f_NC_weigh x0 y0 m) (f_Mo_weigh x0 y0) := by
  obtain ⟨n, d, a, e, h, H, i⟩ := hI
  obtain ⟨i1, i2, i3, i4, i5, i6, i7, i8, i9⟩ := id i
  obtain ⟨x, hx, rfl⟩ := arg x0
  obtain ⟨y, hy, rfl⟩ := arg y0
  have n24 := i1.1
  have cl : ∀ m', m'.1 200 1 = nI n → f_Mo_isName (iI x) (si m' 200 0 0) = some (bI (nmB n x)) := fun m' h' => name_eq hx n24 (by rw [q01]; exact h')
  unfold f_NC_weigh
  rw [has_eq hx n24 i2.1]
  simp only [cP, bd, bI_z]
  cases hb : nmB n x with
  | false =>
    rw [if_pos rfl]
    refine ⟨-3, m, si m 200 0 0, rfl, ?_, _, _, _, _, _, _, i.m0⟩
    unfold f_Mo_weigh
    simp only [bd]
    rw [cl m i3.1]
    simp only [cP, bI_z]
    rw [hb, if_pos rfl]
  | true =>
    obtain ⟨ix, hix, rfl⟩ := nm_get hb
    rw [if_neg (by decide)]
    rw [show f_NC_within (iI y) 1 1000 _ = _ from within_eq (lo := 1) (hi := 1000) hy (by unfold Rng; omega) (by unfold Rng; omega)]
    simp only [bI_z]
    cases hb0 : decide (1 ≤ y ∧ y ≤ 1000) with
    | false =>
      rw [if_pos rfl]
      refine ⟨-3, m, si m 200 0 0, rfl, ?_, _, _, _, _, _, _, i.m0⟩
      unfold f_Mo_weigh
      simp only [bd]
      rw [cl m i3.1]
      simp only [cP, bI_z]
      rw [hb, if_neg (by decide)]
      rw [show f_Mo_in _ 1 1000 _ = _ from in_eq (lo := 1) (hi := 1000) hy (by unfold Rng; omega) (by unfold Rng; omega)]
      simp only [bI_z]
      rw [hb0, if_pos rfl]
    | true =>
      rw [if_neg (by decide)]
      obtain ⟨X, hX1, hX2, rfl⟩ := in_get (lo := 1) (hi := 1000) hb0
      simp only [← nI_i (X)]
      obtain ⟨m3, e3, C3, hc3, z1, z2, z3, f3⟩ := redraw_q i
      rw [e3]
      simp only []
      rw [← nI_i, show ln 16 = 24 from rfl, rd_n (by omega) (by omega)]
      rw [wi_n (by omega) (by omega), show m3.1 16 ix = nI (a 6 ix) from C3.2.2.1 6 ix (by omega) (by omega) hix]
      have f4 : Fm (fun o j => 11 ≤ o ∧ o ≤ 17 ∧ j = ix) m3 (si m3 16 ix (nI X)) := Fm.wr (by omega)
      have w4 : Fm SCl m (si m3 16 ix (nI X)) := (f3.mo (fun o j w => by unfold SRd at w; unfold SCl; omega)).tr (f4.mo (fun o j w => by unfold SCl; omega))
      generalize hm4 : si m3 16 ix (nI X) = m4 at *
      obtain ⟨M4, hm4', m5, e5, hm5, M5, f5⟩ := toM i w4
      have f6 : Fm (fun o j => 201 ≤ o ∧ o ≤ 207 ∧ j = ix) m5 (si m5 206 ix (nI X)) := Fm.wr (by omega)
      generalize hm6 : si m5 206 ix (nI X) = m6 at *
      refine ⟨nI (a 6 ix), m4, m6, rfl, ?_, ?_⟩
      · unfold f_Mo_weigh
        simp only [bd]
        rw [nI_i ix, nI_i X, cl m4 M4.1]
        simp only [cP, bI_z]
        rw [hb, if_neg (by decide)]
        rw [show f_Mo_in _ 1 1000 _ = _ from in_eq (lo := 1) (hi := 1000) hy (by unfold Rng; omega) (by unfold Rng; omega)]
        simp only [bI_z]
        rw [hb0, if_neg (by decide)]
        rw [e5]
        simp only []
        rw [← nI_i, show ln 206 = 24 from rfl, rd_n (by omega) (by omega), wi_n (by omega) (by omega), show m5.1 206 ix = nI (a 6 ix) from M5.2.2.1 6 ix (by omega) (by omega) hix]
        simp only [← nI_i]
        rw [hm6]
      · refine fin_upd (f := fun r => if r = 6 then X else a r ix) i hix (by have k := ok_of i1 hix; obtain ⟨k1, k2, k3, k4, k5, k6, k7, k8, k9, k10⟩ := k; exact ⟨k1, k2, k3, k4, k5, k6, k7, hX1, hX2, k10⟩) C3 hc3 z1 z2 z3 f4 (all6 (by rw [← hm4, si1, if_neg (by omega)]; exact C3.2.2.1 1 ix (by omega) (by omega) hix) (by rw [← hm4, si1, if_neg (by omega)]; exact C3.2.2.1 2 ix (by omega) (by omega) hix) (by rw [← hm4, si1, if_neg (by omega)]; exact C3.2.2.1 3 ix (by omega) (by omega) hix) (by rw [← hm4, si1, if_neg (by omega)]; exact C3.2.2.1 4 ix (by omega) (by omega) hix) (by rw [← hm4, si1, if_neg (by omega)]; exact C3.2.2.1 5 ix (by omega) (by omega) hix) (by rw [← hm4]; simp [si1])) (by rw [← hm4, si1, if_neg (by omega)]; exact C3.2.2.2.1 ix hix) hm5 M5 f5 f6 (all7 (by rw [← hm6, si1, if_neg (by omega)]; exact M5.2.2.1 1 ix (by omega) (by omega) hix) (by rw [← hm6, si1, if_neg (by omega)]; exact M5.2.2.1 2 ix (by omega) (by omega) hix) (by rw [← hm6, si1, if_neg (by omega)]; exact M5.2.2.1 3 ix (by omega) (by omega) hix) (by rw [← hm6, si1, if_neg (by omega)]; exact M5.2.2.1 4 ix (by omega) (by omega) hix) (by rw [← hm6, si1, if_neg (by omega)]; exact M5.2.2.1 5 ix (by omega) (by omega) hix) (by rw [← hm6]; simp [si1]) (by rw [← hm6, si1, if_neg (by omega)]; exact M5.2.2.1 7 ix (by omega) (by omega) hix))
set_option maxHeartbeats 1000000 in
theorem c_size {m : Me} (hI : Inv m) (x0 y0 z0 : Int32) : PairI (f_NC_size x0 y0 z0 m) (f_Mo_size x0 y0 z0) := by
  obtain ⟨n, d, a, e, h, H, i⟩ := hI
  obtain ⟨i1, i2, i3, i4, i5, i6, i7, i8, i9⟩ := id i
  obtain ⟨x, hx, rfl⟩ := arg x0
  obtain ⟨y, hy, rfl⟩ := arg y0
  obtain ⟨z, hz, rfl⟩ := arg z0
  have n24 := i1.1
  have cl : ∀ m', m'.1 200 1 = nI n → f_Mo_isName (iI x) (si m' 200 0 0) = some (bI (nmB n x)) := fun m' h' => name_eq hx n24 (by rw [q01]; exact h')
  unfold f_NC_size
  rw [has_eq hx n24 i2.1]
  simp only [cP, bd, bI_z]
  cases hb : nmB n x with
  | false =>
    rw [if_pos rfl]
    refine ⟨-3, m, si m 200 0 0, rfl, ?_, _, _, _, _, _, _, i.m0⟩
    unfold f_Mo_size
    simp only [bd]
    rw [cl m i3.1]
    simp only [cP, bI_z]
    rw [hb, if_pos rfl]
  | true =>
    obtain ⟨ix, hix, rfl⟩ := nm_get hb
    rw [if_neg (by decide)]
    rw [show f_NC_within (iI y) 1 300 _ = _ from within_eq (lo := 1) (hi := 300) hy (by unfold Rng; omega) (by unfold Rng; omega)]
    simp only [bI_z]
    cases hb0 : decide (1 ≤ y ∧ y ≤ 300) with
    | false =>
      rw [if_pos rfl]
      refine ⟨-3, m, si m 200 0 0, rfl, ?_, _, _, _, _, _, _, i.m0⟩
      unfold f_Mo_size
      simp only [bd]
      rw [cl m i3.1]
      simp only [cP, bI_z]
      rw [hb, if_neg (by decide)]
      rw [show f_Mo_in _ 1 300 _ = _ from in_eq (lo := 1) (hi := 300) hy (by unfold Rng; omega) (by unfold Rng; omega)]
      simp only [bI_z]
      rw [hb0, if_pos rfl]
    | true =>
      rw [if_neg (by decide)]
      rw [show f_NC_within (iI z) 1 80 _ = _ from within_eq (lo := 1) (hi := 80) hz (by unfold Rng; omega) (by unfold Rng; omega)]
      simp only [bI_z]
      cases hb1 : decide (1 ≤ z ∧ z ≤ 80) with
      | false =>
        rw [if_pos rfl]
        refine ⟨-3, m, si m 200 0 0, rfl, ?_, _, _, _, _, _, _, i.m0⟩
        unfold f_Mo_size
        simp only [bd]
        rw [cl m i3.1]
        simp only [cP, bI_z]
        rw [hb, if_neg (by decide)]
        rw [show f_Mo_in _ 1 300 _ = _ from in_eq (lo := 1) (hi := 300) hy (by unfold Rng; omega) (by unfold Rng; omega)]
        simp only [bI_z]
        rw [hb0, if_neg (by decide)]
        rw [show f_Mo_in _ 1 80 _ = _ from in_eq (lo := 1) (hi := 80) hz (by unfold Rng; omega) (by unfold Rng; omega)]
        simp only [bI_z]
        rw [hb1, if_pos rfl]
      | true =>
        rw [if_neg (by decide)]
        obtain ⟨X, hX1, hX2, rfl⟩ := in_get (lo := 1) (hi := 300) hb0
        obtain ⟨Y, hY1, hY2, rfl⟩ := in_get (lo := 1) (hi := 80) hb1
        simp only [← nI_i (X), ← nI_i (Y)]
        obtain ⟨m3, e3, C3, hc3, z1, z2, z3, f3⟩ := redraw_q i
        rw [e3]
        simp only []
        rw [← nI_i, show ln 14 = 24 from rfl, show ln 15 = 24 from rfl, wi_n (by omega) (by omega), wi_n (by omega) (by omega)]
        have f4 : Fm (fun o j => 11 ≤ o ∧ o ≤ 17 ∧ j = ix) m3 (si (si m3 14 ix (nI X)) 15 ix (nI Y)) := (Fm.wr (by omega)).wr' (by omega)
        have w4 : Fm SCl m (si (si m3 14 ix (nI X)) 15 ix (nI Y)) := (f3.mo (fun o j w => by unfold SRd at w; unfold SCl; omega)).tr (f4.mo (fun o j w => by unfold SCl; omega))
        generalize hm4 : si (si m3 14 ix (nI X)) 15 ix (nI Y) = m4 at *
        obtain ⟨M4, hm4', m5, e5, hm5, M5, f5⟩ := toM i w4
        have f6 : Fm (fun o j => 201 ≤ o ∧ o ≤ 207 ∧ j = ix) m5 (si (si m5 204 ix (nI X)) 205 ix (nI Y)) := (Fm.wr (by omega)).wr' (by omega)
        generalize hm6 : si (si m5 204 ix (nI X)) 205 ix (nI Y) = m6 at *
        refine ⟨0, m4, m6, rfl, ?_, ?_⟩
        · unfold f_Mo_size
          simp only [bd]
          rw [nI_i ix, nI_i X, nI_i Y, cl m4 M4.1]
          simp only [cP, bI_z]
          rw [hb, if_neg (by decide)]
          rw [show f_Mo_in _ 1 300 _ = _ from in_eq (lo := 1) (hi := 300) hy (by unfold Rng; omega) (by unfold Rng; omega)]
          simp only [bI_z]
          rw [hb0, if_neg (by decide)]
          rw [show f_Mo_in _ 1 80 _ = _ from in_eq (lo := 1) (hi := 80) hz (by unfold Rng; omega) (by unfold Rng; omega)]
          simp only [bI_z]
          rw [hb1, if_neg (by decide)]
          rw [e5]
          simp only []
          rw [← nI_i, show ln 204 = 24 from rfl, show ln 205 = 24 from rfl, wi_n (by omega) (by omega), wi_n (by omega) (by omega)]
          simp only [← nI_i]
          rw [hm6]
        · refine fin_upd (f := fun r => if r = 4 then X else if r = 5 then Y else a r ix) i hix (by have k := ok_of i1 hix; obtain ⟨k1, k2, k3, k4, k5, k6, k7, k8, k9, k10⟩ := k; exact ⟨k1, k2, k3, hX1, hX2, hY1, hY2, k8, k9, k10⟩) C3 hc3 z1 z2 z3 f4 (all6 (by rw [← hm4, si1, if_neg (by omega), si1, if_neg (by omega)]; exact C3.2.2.1 1 ix (by omega) (by omega) hix) (by rw [← hm4, si1, if_neg (by omega), si1, if_neg (by omega)]; exact C3.2.2.1 2 ix (by omega) (by omega) hix) (by rw [← hm4, si1, if_neg (by omega), si1, if_neg (by omega)]; exact C3.2.2.1 3 ix (by omega) (by omega) hix) (by rw [← hm4]; simp [si1]) (by rw [← hm4]; simp [si1]) (by rw [← hm4, si1, if_neg (by omega), si1, if_neg (by omega)]; exact C3.2.2.1 6 ix (by omega) (by omega) hix)) (by rw [← hm4, si1, if_neg (by omega), si1, if_neg (by omega)]; exact C3.2.2.2.1 ix hix) hm5 M5 f5 f6 (all7 (by rw [← hm6, si1, if_neg (by omega), si1, if_neg (by omega)]; exact M5.2.2.1 1 ix (by omega) (by omega) hix) (by rw [← hm6, si1, if_neg (by omega), si1, if_neg (by omega)]; exact M5.2.2.1 2 ix (by omega) (by omega) hix) (by rw [← hm6, si1, if_neg (by omega), si1, if_neg (by omega)]; exact M5.2.2.1 3 ix (by omega) (by omega) hix) (by rw [← hm6]; simp [si1]) (by rw [← hm6]; simp [si1]) (by rw [← hm6, si1, if_neg (by omega), si1, if_neg (by omega)]; exact M5.2.2.1 6 ix (by omega) (by omega) hix) (by rw [← hm6, si1, if_neg (by omega), si1, if_neg (by omega)]; exact M5.2.2.1 7 ix (by omega) (by omega) hix))
