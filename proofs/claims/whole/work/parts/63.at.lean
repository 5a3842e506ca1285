/-! PURE PART: what covers a place -/
noncomputable def atB (a : Ch) (X Y k : Nat) : Bool := decide (a 7 k ≠ 16) && cvB a k (a 7 k) 0 X Y
theorem at_eq {m : Me} {n d : Nat} {a : Ch} {X Y : Nat} (hV : VV n d a) (hC : CC m 10 n d a) (hL : LK m n d a) (hX : X ≤ 1000) (hY : Y ≤ 1000) : (fx (lb_NC_at_17 (nI X) (nI Y) m) (fun _ => none) FU) 0 = some (lsI (atB a X Y) n, m) := by
  have h24 := hV.1
  refine up aU n (fun k _ => lsF (atB a X Y) (n - k) k = lsI (atB a X Y) n) (fun r => r = some (lsI (atB a X Y) n, m)) 0 () (by omega) (by unfold FU; omega) rfl ?_ ?_
  · intro f k _ hk hI' ih
    show lb_NC_at_17 (nI X) (nI Y) m f (nI k) = _
    unfold lb_NC_at_17
    have w16' := waysS_le (a := a) (i := k)
    rw [lsF_st hk] at hI'
    rw [hC.1, if_neg (nI_ge hk (by omega)), show ln 17 = 24 from rfl, rd_n (by omega) (by omega)]
    simp only [bd, nI_1, rd_n (show k < 24 by omega) (show 24 < 2 ^ 31 by decide), show m.1 17 k = hI (a 7 k) from hC.2.2.2.1 k hk]
    have nx : atB a X Y k = false → f (nI (k + 1)) = some (lsI (atB a X Y) n, m) := by
      intro hf
      rw [hf, if_neg (by decide)] at hI'
      exact ih () hI'
    by_cases c : a 7 k = 16
    · rw [c, if_pos (show hI 16 = (-1 : Int32) from rfl)]
      exact nx (by unfold atB; simp [c])
    · have gk : a 7 k < waysS a k := (hV.gs k hk).resolve_left c
      rw [hI_lt (by omega), if_neg (nI_n1 (by omega)), boxOf_eq (by omega) (by omega)]
      simp only [cP]
      rw [covers_eq (by omega) (hV.2.2.1 k hk).1 ((hL k hk).1 _ gk) (by omega) (by omega)]
      simp only [bI_z]
      cases ho : cvB a k (a 7 k) 0 X Y with
      | false =>
        rw [if_pos rfl]
        exact nx (by unfold atB; simp [ho])
      | true =>
        rw [if_neg (by decide)]
        rw [show atB a X Y k = true by unfold atB; simp [c, ho], if_pos rfl] at hI'
        rw [hI']
  · intro f _ hI'
    show lb_NC_at_17 (nI X) (nI Y) m f (nI n) = _
    unfold lb_NC_at_17
    rw [hC.1, if_pos (nI_le (Nat.le_refl _) (by omega)), ← hI', Nat.sub_self]
    rfl
theorem moAt_eq {m : Me} {n d : Nat} {a : Ch} {X Y : Nat} (hV : VV n d a) (hM : MM m n d a) (hX : X ≤ 1000) (hY : Y ≤ 1000) : ∃ m', (fx (lb_Mo_at_18 (nI X) (nI Y)) (fun _ _ => none) FU) 0 m = some (lsI (atB a X Y) n, m') ∧ Fm SD m m' := by
  have h24 := hV.1
  refine up aM n (fun k m' => lsF (atB a X Y) (n - k) k = lsI (atB a X Y) n ∧ Fm SD m m') (fun r => ∃ m', r = some (lsI (atB a X Y) n, m') ∧ Fm SD m m') 0 m (by omega) (by unfold FU; omega) ⟨rfl, Fm.rf⟩ ?_ ?_
  · rintro f k m1 hk ⟨hI', f1⟩ ih
    show ∃ m', lb_Mo_at_18 (nI X) (nI Y) f (nI k) m1 = some (_, m') ∧ _
    unfold lb_Mo_at_18
    have w16' := waysS_le (a := a) (i := k)
    have M1 := hM.fD f1
    rw [lsF_st hk] at hI'
    rw [M1.1, if_neg (nI_ge hk (by omega)), show ln 207 = 24 from rfl, rd_n (by omega) (by omega)]
    simp only [bd, nI_1, rd_n (show k < 24 by omega) (show 24 < 2 ^ 31 by decide), show m1.1 207 k = nI (a 7 k) from M1.2.2.1 7 k (by omega) (by omega) hk]
    have nx : ∀ m2, Fm SD m m2 → atB a X Y k = false → ∃ m', f (nI (k + 1)) m2 = some (lsI (atB a X Y) n, m') ∧ Fm SD m m' := by
      intro m2 f2 hf
      rw [hf, if_neg (by decide)] at hI'
      exact ih m2 ⟨hI', f2⟩
    by_cases c : a 7 k = 16
    · rw [c, if_pos (show nI 16 = (16 : Int32) from rfl)]
      exact nx m1 f1 (by unfold atB; simp [c])
    · have gk : a 7 k < waysS a k := (hV.gs k hk).resolve_left c
      rw [if_neg (show ¬ nI (a 7 k) = (16 : Int32) from nI_ne (b := 16) (by omega) (by decide) c)]
      obtain ⟨m2, e2, f2, b0, b1, b2, b3⟩ := moBox_eq (w := a 7 k) (z := 0) hV M1 hk (by omega) (by omega)
      rw [show f_Mo_box (nI k) (nI (a 7 k)) 0 m1 = _ from e2]
      simp only [cP]
      rw [mocovers_eq (z := 0) (by omega) (hV.2.2.1 k hk).1 b0 b1 b2 b3 (by omega) (by omega)]
      simp only [bI_z]
      cases ho : cvB a k (a 7 k) 0 X Y with
      | false =>
        rw [if_pos rfl]
        exact nx m2 (f1.tr f2) (by unfold atB; simp [ho])
      | true =>
        rw [if_neg (by decide)]
        rw [show atB a X Y k = true by unfold atB; simp [c, ho], if_pos rfl] at hI'
        rw [← hI']
        exact ⟨m2, rfl, f1.tr f2⟩
  · rintro f m1 ⟨hI', f1⟩
    show ∃ m', lb_Mo_at_18 (nI X) (nI Y) f (nI n) m1 = some (_, m') ∧ _
    unfold lb_Mo_at_18
    rw [(hM.fD f1).1, if_pos (nI_le (Nat.le_refl _) (by omega)), ← hI', Nat.sub_self]
    exact ⟨m1, rfl, f1⟩
theorem c_at {m : Me} (hI' : Inv m) (x0 y0 : Int32) : PairI (f_NC_at x0 y0 m) (f_Mo_at x0 y0) := by
  obtain ⟨n, d, a, e, h, H, i⟩ := hI'
  obtain ⟨i1, i2, i3, i4, i5, i6, i7, i8, i9⟩ := id i
  obtain ⟨x, hx, rfl⟩ := arg x0
  obtain ⟨y, hy, rfl⟩ := arg y0
  unfold f_NC_at
  rw [place_eq hx hy]
  simp only [cP, bI_z]
  have mo : ∀ m1, f_Mo_at (iI x) (iI y) m1 = if plB x y = false then some ((-3 : Int32), si m1 200 0 0) else (fx (lb_Mo_at_18 (iI x) (iI y)) (fun _ _ => none) FU) 0 (si m1 200 0 0) := by
    intro m1
    unfold f_Mo_at
    rw [bdE, moPlace_eq hx hy]
    simp only [cP_s, bI_z]
  cases hp : plB x y with
  | false =>
    rw [if_pos rfl]
    refine ⟨-3, m, si m 200 0 0, rfl, ?_, i.m0.inv⟩
    rw [mo, hp, if_pos rfl]
  | true =>
    obtain ⟨X, Y, hX, hY, rfl, rfl⟩ := pl_get hp
    obtain ⟨m1, e1, j1, k1⟩ := layOut_q i
    have j := j1.m0
    rw [if_neg (by decide), e1]
    simp only []
    rw [← nI_i, ← nI_i, at_eq i1 j1.2.1 k1 hX hY]
    obtain ⟨m2, e2, f2⟩ := moAt_eq i1 j.2.2.1 hX hY
    refine ⟨_, m1, m2, rfl, ?_, (j.fD f2).inv⟩
    have := mo m1
    rw [hp, if_neg (by decide), ← nI_i, ← nI_i, e2] at this
    exact this
/-! the window -/
noncomputable def fnB (a : Ch) (x y w h : Int) (k : Nat) : Bool := decide (a 7 k ≠ 16) && pB (ovI (lS a k (a 7 k) 0) (tS a k (a 7 k) 0) (lS a k (a 7 k) 0 + bwS a k (a 7 k)) (tS a k (a 7 k) 0 + bhS a k (a 7 k)) x y (x + w) (y + h))
noncomputable def fiB (a : Ch) (x y w h : Int) (c k : Nat) : Bool := fnB a x y w h k && decide (cnt (fnB a x y w h) k = c)
theorem ovl_eq {m : Me} {o : Nat} {a : Ch} {k v : Nat} {x y w h : Int} (hN : NmS a k) (hB : BoxAt m o a k v 0) (hx : 0 ≤ x ∧ x ≤ 1000) (hy : 0 ≤ y ∧ y ≤ 1000) (hw : 1 ≤ w ∧ w ≤ 1000) (hh : 1 ≤ h ∧ h ≤ 1000) :
    f_Box_overlaps o (iI x) (iI y) (iI (x + w)) (iI (y + h)) m = some (bI (pB (ovI (lS a k v 0) (tS a k v 0) (lS a k v 0 + bwS a k v) (tS a k v 0 + bhS a k v) x y (x + w) (y + h)))) := by
  obtain ⟨h0, h1, h2, h3, -, h5, h6, h7, h8⟩ := hB
  exact (over_ok ⟨h0, h1, h2, h3, h5, h6, h7, h8⟩ (box_rg (by omega) hN) (by omega) (by omega) (by omega) (by omega)).eq
theorem find_eq {m : Me} {n d : Nat} {a : Ch} {x y w h : Int} {c : Nat} (hV : VV n d a) (hC : CC m 10 n d a) (hL : LK m n d a) (hx : 0 ≤ x ∧ x ≤ 1000) (hy : 0 ≤ y ∧ y ≤ 1000) (hw : 1 ≤ w ∧ w ≤ 1000) (hh : 1 ≤ h ∧ h ≤ 1000) (hc : c < 2 ^ 31) :
    (fx (lb_NC_find_49 (iI x) (iI y) (iI w) (iI h) (nI c) m) (fun _ _ => none) FU) 0 0 = some (lsI (fiB a x y w h c) n, m) := by
  have h24 := hV.1
  refine up aV n (fun k s => s = nI (cnt (fnB a x y w h) k) ∧ lsF (fiB a x y w h c) (n - k) k = lsI (fiB a x y w h c) n) (fun r => r = some (lsI (fiB a x y w h c) n, m)) 0 0 (by omega) (by unfold FU; omega) ⟨rfl, rfl⟩ ?_ ?_
  · rintro f k s hk ⟨hs, hI'⟩ ih
    have hs : s = nI (cnt (fnB a x y w h) k) := hs
    subst hs
    show lb_NC_find_49 (iI x) (iI y) (iI w) (iI h) (nI c) m f (nI (cnt (fnB a x y w h) k)) (nI k) = _
    unfold lb_NC_find_49
    have w16' := waysS_le (a := a) (i := k)
    have cl := cnt_le (fnB a x y w h) k
    rw [lsF_st hk] at hI'
    rw [hC.1, if_neg (nI_ge hk (by omega)), show ln 17 = 24 from rfl, rd_n (by omega) (by omega)]
    simp only [bd, nI_1, rd_n (show k < 24 by omega) (show 24 < 2 ^ 31 by decide), show m.1 17 k = hI (a 7 k) from hC.2.2.2.1 k hk]
    have es : cnt (fnB a x y w h) (k + 1) = cnt (fnB a x y w h) k + (if fnB a x y w h k = true then 1 else 0) := rfl
    have nx : fnB a x y w h k = false → f (nI (cnt (fnB a x y w h) k)) (nI (k + 1)) = some (lsI (fiB a x y w h c) n, m) := by
      intro hf
      rw [show fiB a x y w h c k = false by unfold fiB; rw [hf]; rfl, if_neg (by decide)] at hI'
      rw [hf, if_neg (by decide)] at es
      exact ih _ ⟨by rw [es]; rfl, hI'⟩
    by_cases q : a 7 k = 16
    · rw [q, if_pos (show hI 16 = (-1 : Int32) from rfl)]
      exact nx (by unfold fnB; simp [q])
    · have gk : a 7 k < waysS a k := (hV.gs k hk).resolve_left q
      rw [hI_lt (by omega), if_neg (nI_n1 (by omega)), boxOf_eq (by omega) (by omega)]
      simp only [cP]
      rw [iI_add, iI_add, ovl_eq (hV.2.2.1 k hk).1 ((hL k hk).1 _ gk) hx hy hw hh]
      simp only [bI_z]
      cases ho : pB (ovI (lS a k (a 7 k) 0) (tS a k (a 7 k) 0) (lS a k (a 7 k) 0 + bwS a k (a 7 k)) (tS a k (a 7 k) 0 + bhS a k (a 7 k)) x y (x + w) (y + h)) with
      | false =>
        rw [if_pos rfl]
        exact nx (by unfold fnB; rw [ho]; simp)
      | true =>
        have hf : fnB a x y w h k = true := by unfold fnB; rw [ho]; simp [q]
        rw [if_neg (by decide)]
        by_cases ce : cnt (fnB a x y w h) k = c
        · rw [if_pos (by rw [ce])]
          rw [show fiB a x y w h c k = true by unfold fiB; rw [hf]; simp [ce], if_pos rfl] at hI'
          rw [hI']
        · rw [if_neg (nI_ne (by omega) hc ce)]
          rw [show fiB a x y w h c k = false by unfold fiB; simp [ce], if_neg (by decide)] at hI'
          rw [hf, if_pos rfl] at es
          exact ih _ ⟨by rw [es], hI'⟩
  · rintro f s ⟨hs, hI'⟩
    show lb_NC_find_49 (iI x) (iI y) (iI w) (iI h) (nI c) m f s (nI n) = _
    unfold lb_NC_find_49
    rw [hC.1, if_pos (nI_le (Nat.le_refl _) (by omega)), ← hI', Nat.sub_self]
    rfl
theorem moFind_eq {m : Me} {n d : Nat} {a : Ch} {x y w h : Int} {c : Nat} (hV : VV n d a) (hM : MM m n d a) (hx : 0 ≤ x ∧ x ≤ 1000) (hy : 0 ≤ y ∧ y ≤ 1000) (hw : 1 ≤ w ∧ w ≤ 1000) (hh : 1 ≤ h ∧ h ≤ 1000) (hc : c < 2 ^ 31) :
    ∃ m', (fx (lb_Mo_find_51 (iI x) (iI y) (iI w) (iI h)) (fun _ _ _ => none) FU) (nI c) 0 m = some (lsI (fiB a x y w h c) n, m') ∧ Fm SD m m' := by
  have h24 := hV.1
  refine up aVM n (fun k s => s.1 = nI (c - cnt (fnB a x y w h) k) ∧ cnt (fnB a x y w h) k ≤ c ∧ lsF (fiB a x y w h c) (n - k) k = lsI (fiB a x y w h c) n ∧ Fm SD m s.2) (fun r => ∃ m', r = some (lsI (fiB a x y w h c) n, m') ∧ Fm SD m m') 0 (nI c, m) (by omega) (by unfold FU; omega) ⟨rfl, Nat.zero_le _, rfl, Fm.rf⟩ ?_ ?_
  · rintro f k ⟨s, m1⟩ hk ⟨hs, hle, hI', f1⟩ ih
    have hs : s = nI (c - cnt (fnB a x y w h) k) := hs
    have f1 : Fm SD m m1 := f1
    subst hs
    show ∃ m', lb_Mo_find_51 (iI x) (iI y) (iI w) (iI h) f (nI (c - cnt (fnB a x y w h) k)) (nI k) m1 = some (_, m') ∧ _
    unfold lb_Mo_find_51
    have w16' := waysS_le (a := a) (i := k)
    have M1 := hM.fD f1
    rw [lsF_st hk] at hI'
    rw [M1.1, if_neg (nI_ge hk (by omega)), show ln 207 = 24 from rfl, rd_n (by omega) (by omega)]
    simp only [bd, nI_1, rd_n (show k < 24 by omega) (show 24 < 2 ^ 31 by decide), show m1.1 207 k = nI (a 7 k) from M1.2.2.1 7 k (by omega) (by omega) hk]
    have es : cnt (fnB a x y w h) (k + 1) = cnt (fnB a x y w h) k + (if fnB a x y w h k = true then 1 else 0) := rfl
    have nx : ∀ m2, Fm SD m m2 → fnB a x y w h k = false → ∃ m', f (nI (c - cnt (fnB a x y w h) k)) (nI (k + 1)) m2 = some (lsI (fiB a x y w h c) n, m') ∧ Fm SD m m' := by
      intro m2 f2 hf
      rw [show fiB a x y w h c k = false by unfold fiB; rw [hf]; rfl, if_neg (by decide)] at hI'
      rw [hf, if_neg (by decide)] at es
      exact ih (_, m2) ⟨by rw [es]; rfl, by omega, hI', f2⟩
    by_cases q : a 7 k = 16
    · rw [q, if_pos (show nI 16 = (16 : Int32) from rfl)]
      exact nx m1 f1 (by unfold fnB; simp [q])
    · have gk : a 7 k < waysS a k := (hV.gs k hk).resolve_left q
      rw [if_neg (show ¬ nI (a 7 k) = (16 : Int32) from nI_ne (b := 16) (by omega) (by decide) q)]
      obtain ⟨m2, e2, f2, b0, b1, b2, b3⟩ := moBox_eq (w := a 7 k) (z := 0) hV M1 hk (by omega) (by omega)
      obtain ⟨r1, r2, r3, r4, -⟩ := box_rg (w := a 7 k) (z := 0) (by omega) (hV.2.2.1 k hk).1
      rw [show f_Mo_box (nI k) (nI (a 7 k)) 0 m1 = _ from e2]
      simp only [cP]
      rw [b0, b1, b2, b3, nI_i (bwS a k (a 7 k)), nI_i (bhS a k (a 7 k)), iI_add, iI_add, iI_add, iI_add]
      simp only [b_le (x := x + w) (y := lS a k (a 7 k) 0) (by omega) (by omega) (by omega) (by omega), b_le (x := lS a k (a 7 k) 0 + bwS a k (a 7 k)) (y := x) (by omega) (by omega) (by omega) (by omega), b_le (x := y + h) (y := tS a k (a 7 k) 0) (by omega) (by omega) (by omega) (by omega), b_le (x := tS a k (a 7 k) 0 + bhS a k (a 7 k)) (y := y) (by omega) (by omega) (by omega) (by omega)]
      by_cases ov : ovI (lS a k (a 7 k) 0) (tS a k (a 7 k) 0) (lS a k (a 7 k) 0 + bwS a k (a 7 k)) (tS a k (a 7 k) 0 + bhS a k (a 7 k)) x y (x + w) (y + h)
      · have hf : fnB a x y w h k = true := by unfold fnB; rw [pB_t.mpr ov]; simp [q]
        unfold ovI at ov
        rw [if_neg (by omega), if_neg (by omega), if_neg (by omega), if_neg (by omega)]
        by_cases ce : cnt (fnB a x y w h) k = c
        · rw [show c - cnt (fnB a x y w h) k = 0 by omega, if_pos (show nI 0 = 0 from rfl)]
          rw [show fiB a x y w h c k = true by unfold fiB; rw [hf]; simp [ce], if_pos rfl] at hI'
          rw [← hI']
          exact ⟨m2, rfl, f1.tr f2⟩
        · rw [if_neg (nI_ne0 (by omega) (by omega)), show c - cnt (fnB a x y w h) k = (c - cnt (fnB a x y w h) k - 1) + 1 by omega, show nI ((c - cnt (fnB a x y w h) k - 1) + 1) + Int32.ofInt (-1) = nI (c - cnt (fnB a x y w h) k - 1) from pk_m1 _]
          rw [show fiB a x y w h c k = false by unfold fiB; simp [ce], if_neg (by decide)] at hI'
          rw [hf, if_pos rfl] at es
          exact ih (_, m2) ⟨by rw [es]; rfl, by omega, hI', f1.tr f2⟩
      · have hf : fnB a x y w h k = false := by unfold fnB; rw [pB_f.mpr ov]; simp
        have := nx m2 (f1.tr f2) hf
        unfold ovI at ov
        by_cases o1 : x + w ≤ lS a k (a 7 k) 0
        · rw [if_pos o1]; exact this
        · rw [if_neg o1]
          by_cases o2 : lS a k (a 7 k) 0 + bwS a k (a 7 k) ≤ x
          · rw [if_pos o2]; exact this
          · rw [if_neg o2]
            by_cases o3 : y + h ≤ tS a k (a 7 k) 0
            · rw [if_pos o3]; exact this
            · rw [if_neg o3, if_pos (by omega)]; exact this
  · rintro f ⟨s, m1⟩ ⟨hs, hle, hI', f1⟩
    have f1 : Fm SD m m1 := f1
    show ∃ m', lb_Mo_find_51 (iI x) (iI y) (iI w) (iI h) f s (nI n) m1 = some (_, m') ∧ _
    unfold lb_Mo_find_51
    rw [(hM.fD f1).1, if_pos (nI_le (Nat.le_refl _) (by omega)), ← hI', Nat.sub_self]
    exact ⟨m1, rfl, f1⟩
theorem c_find {m : Me} (hI' : Inv m) (x0 y0 z0 u0 v0 : Int32) : PairI (f_NC_find x0 y0 z0 u0 v0 m) (f_Mo_find x0 y0 z0 u0 v0) := by
  obtain ⟨n, d, a, e, h, H, i⟩ := hI'
  obtain ⟨i1, i2, i3, i4, i5, i6, i7, i8, i9⟩ := id i
  obtain ⟨x, hx, rfl⟩ := arg x0
  obtain ⟨y, hy, rfl⟩ := arg y0
  obtain ⟨z, hz, rfl⟩ := arg z0
  obtain ⟨u, hu, rfl⟩ := arg u0
  obtain ⟨v, hv, rfl⟩ := arg v0
  have e0 : (0 ≤ iI v) ↔ 0 ≤ v := iI_le (a := 0) (by omega) (by omega) hv.1 hv.2
  have mo : ∀ m1, f_Mo_find (iI x) (iI y) (iI z) (iI u) (iI v) m1 = if plB x y = false then some ((-3 : Int32), si m1 200 0 0) else if decide (1 ≤ z ∧ z ≤ 1000) = false then some ((-3 : Int32), si m1 200 0 0) else if decide (1 ≤ u ∧ u ≤ 1000) = false then some ((-3 : Int32), si m1 200 0 0) else if 0 ≤ v then (fx (lb_Mo_find_51 (iI x) (iI y) (iI z) (iI u)) (fun _ _ _ => none) FU) (iI v) 0 (si m1 200 0 0) else some ((-3 : Int32), si m1 200 0 0) := by
    intro m1
    unfold f_Mo_find
    rw [bdE, moPlace_eq hx hy]
    simp only [cP_s, bI_z]
    rw [show f_Mo_in (iI z) 1 1000 _ = _ from in_eq (lo := 1) (hi := 1000) hz (by unfold Rng; omega) (by unfold Rng; omega)]
    simp only [cP_s, bI_z]
    rw [show f_Mo_in (iI u) 1 1000 _ = _ from in_eq (lo := 1) (hi := 1000) hu (by unfold Rng; omega) (by unfold Rng; omega)]
    simp only [cP_s, bI_z, e0]
  unfold f_NC_find
  rw [place_eq hx hy]
  simp only [cP_s, bI_z]
  rw [show f_NC_within (iI z) 1 1000 _ = _ from within_eq (lo := 1) (hi := 1000) hz (by unfold Rng; omega) (by unfold Rng; omega)]
  simp only [cP_s, bI_z]
  rw [show f_NC_within (iI u) 1 1000 _ = _ from within_eq (lo := 1) (hi := 1000) hu (by unfold Rng; omega) (by unfold Rng; omega)]
  simp only [cP_s, bI_z, e0]
  cases hp : plB x y with
  | false =>
    rw [if_pos rfl]
    refine ⟨-3, m, si m 200 0 0, rfl, ?_, i.m0.inv⟩
    rw [mo, hp, if_pos rfl]
  | true =>
    rw [if_neg (by decide)]
    cases h1 : decide (1 ≤ z ∧ z ≤ 1000) with
    | false =>
      rw [if_pos rfl]
      refine ⟨-3, m, si m 200 0 0, rfl, ?_, i.m0.inv⟩
      rw [mo, hp, h1, if_neg (by decide), if_pos rfl]
    | true =>
      rw [if_neg (by decide)]
      cases h2 : decide (1 ≤ u ∧ u ≤ 1000) with
      | false =>
        rw [if_pos rfl]
        refine ⟨-3, m, si m 200 0 0, rfl, ?_, i.m0.inv⟩
        rw [mo, hp, h1, h2, if_neg (by decide), if_neg (by decide), if_pos rfl]
      | true =>
        rw [if_neg (by decide)]
        by_cases h3 : 0 ≤ v
        · rw [if_pos h3]
          obtain ⟨m1, e1, j1, k1⟩ := layOut_q i
          have j := j1.m0
          rw [e1]
          simp only [cP_s]
          have hp' := hp
          unfold plB at hp'
          rw [Bool.and_eq_true] at hp'
          have p1 := of_decide_eq_true hp'.1
          have p2 := of_decide_eq_true hp'.2
          have p3 := of_decide_eq_true h1
          have p4 := of_decide_eq_true h2
          have hc : v.toNat < 2 ^ 31 := by have := hv.2; omega
          have ev : iI v = nI v.toNat := iI_nat h3
          rw [ev, find_eq i1 j1.2.1 k1 p1 p2 p3 p4 hc]
          obtain ⟨m2, e2, f2⟩ := moFind_eq i1 j.2.2.1 p1 p2 p3 p4 hc
          refine ⟨_, m1, m2, rfl, ?_, (j.fD f2).inv⟩
          rw [← ev, mo, hp, h1, h2, if_neg (by decide), if_neg (by decide), if_neg (by decide), if_pos h3, ev]
          exact e2
        · rw [if_neg h3]
          refine ⟨-3, m, si m 200 0 0, rfl, ?_, i.m0.inv⟩
          rw [mo, hp, h1, h2, if_neg (by decide), if_neg (by decide), if_neg (by decide), if_neg h3]
