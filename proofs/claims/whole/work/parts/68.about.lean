/-! PURE PART: about, count -/
theorem musts_eq {m : Me} {n d : Nat} {a : Ch} (hV : VV n d a) (hC : CC m 10 n d a) : f_NC_musts m = some (nI (cnt (fun k => decide (a 1 k = 3)) n)) := by
  have h24 := hV.1
  unfold f_NC_musts
  refine up aV n (fun k s => s = nI (cnt (fun k => decide (a 1 k = 3)) k)) (fun r => r = some (nI (cnt (fun k => decide (a 1 k = 3)) n))) 0 0 (by omega) (by unfold FU; omega) rfl ?_ ?_
  · intro f k s hk hs ih
    have hs : s = nI (cnt (fun k => decide (a 1 k = 3)) k) := hs
    subst hs
    show lb_NC_musts_4 m f _ (nI k) = _
    unfold lb_NC_musts_4
    have h3 := (hV.2.2.1 k hk).1.1
    have es : cnt (fun k => decide (a 1 k = 3)) (k + 1) = cnt (fun k => decide (a 1 k = 3)) k + (if decide (a 1 k = 3) = true then 1 else 0) := rfl
    rw [hC.1, if_neg (nI_ge hk (by omega)), show ln 11 = 24 from rfl, rd_n (by omega) (by omega), show m.1 11 k = nI (a 1 k) from (hC.nm hk).1]
    simp only [bd, nI_1]
    by_cases c : a 1 k = 3
    · rw [if_pos (show nI (a 1 k) = (3 : Int32) by rw [c]; rfl), show f_NC_yes (1 : Int32) m = some 1 from rfl]
      simp only [cP_s]
      rw [if_pos (by simp [c])] at es
      exact ih _ (by rw [es]; exact nI_add _ 1)
    · rw [if_neg (show ¬ nI (a 1 k) = (3 : Int32) from nI_ne (b := 3) (by omega) (by decide) c), show f_NC_yes (0 : Int32) m = some 0 from rfl]
      simp only [cP_s]
      rw [if_neg (by simp [c])] at es
      exact ih _ (by rw [es]; exact nI_add _ 0)
  · intro f s hs
    have hs : s = nI (cnt (fun k => decide (a 1 k = 3)) n) := hs
    subst hs
    show lb_NC_musts_4 m f _ (nI n) = _
    unfold lb_NC_musts_4
    rw [hC.1, if_pos (nI_le (Nat.le_refl _) (by omega))]
theorem mo60 {m : Me} {n d : Nat} {a : Ch} (hV : VV n d a) (hM : MM m n d a) : (fx (lb_Mo_count_60 m) (fun _ _ => none) FU) 0 0 = some (nI (cnt (fun k => decide (a 7 k = 16)) n), m) := by
  have h24 := hV.1
  refine up aV n (fun k s => s = nI (cnt (fun k => decide (a 7 k = 16)) k)) (fun r => r = some (nI (cnt (fun k => decide (a 7 k = 16)) n), m)) 0 0 (by omega) (by unfold FU; omega) rfl ?_ ?_
  · intro f k s hk hs ih
    have hs : s = nI (cnt (fun k => decide (a 7 k = 16)) k) := hs
    subst hs
    show lb_Mo_count_60 m f _ (nI k) = _
    unfold lb_Mo_count_60
    have a7 := a7_le hV hk
    have es : cnt (fun k => decide (a 7 k = 16)) (k + 1) = cnt (fun k => decide (a 7 k = 16)) k + (if decide (a 7 k = 16) = true then 1 else 0) := rfl
    rw [hM.1, if_neg (nI_ge hk (by omega)), show ln 207 = 24 from rfl, rd_n (by omega) (by omega), show m.1 207 k = nI (a 7 k) from hM.2.2.1 7 k (by omega) (by omega) hk]
    simp only [bd, nI_1]
    by_cases c : a 7 k = 16
    · rw [if_pos (show nI (a 7 k) = (16 : Int32) by rw [c]; rfl)]
      rw [if_pos (by simp [c])] at es
      exact ih _ (by rw [es])
    · rw [if_neg (show ¬ nI (a 7 k) = (16 : Int32) from nI_ne (b := 16) (by omega) (by decide) c)]
      rw [if_neg (by simp [c])] at es
      exact ih _ (by rw [es]; exact nI_add _ 0)
  · intro f s hs
    have hs : s = nI (cnt (fun k => decide (a 7 k = 16)) n) := hs
    subst hs
    show lb_Mo_count_60 m f _ (nI n) = _
    unfold lb_Mo_count_60
    rw [hM.1, if_pos (nI_le (Nat.le_refl _) (by omega))]
theorem mo102 {m : Me} {n d : Nat} {a : Ch} (hV : VV n d a) (hM : MM m n d a) : (fx (lb_Mo_count_102 m) (fun _ _ => none) FU) 0 0 = some (nI (cnt (fun k => decide (a 1 k = 3)) n), m) := by
  have h24 := hV.1
  refine up aV n (fun k s => s = nI (cnt (fun k => decide (a 1 k = 3)) k)) (fun r => r = some (nI (cnt (fun k => decide (a 1 k = 3)) n), m)) 0 0 (by omega) (by unfold FU; omega) rfl ?_ ?_
  · intro f k s hk hs ih
    have hs : s = nI (cnt (fun k => decide (a 1 k = 3)) k) := hs
    subst hs
    show lb_Mo_count_102 m f _ (nI k) = _
    unfold lb_Mo_count_102
    have h3 := (hV.2.2.1 k hk).1.1
    have es : cnt (fun k => decide (a 1 k = 3)) (k + 1) = cnt (fun k => decide (a 1 k = 3)) k + (if decide (a 1 k = 3) = true then 1 else 0) := rfl
    rw [hM.1, if_neg (nI_ge hk (by omega)), show ln 201 = 24 from rfl, rd_n (by omega) (by omega), show m.1 201 k = nI (a 1 k) from (hM.nm hk).1]
    simp only [bd, nI_1]
    by_cases c : a 1 k = 3
    · rw [if_pos (show nI (a 1 k) = (3 : Int32) by rw [c]; rfl)]
      rw [if_pos (by simp [c])] at es
      exact ih _ (by rw [es])
    · rw [if_neg (show ¬ nI (a 1 k) = (3 : Int32) from nI_ne (b := 3) (by omega) (by decide) c)]
      rw [if_neg (by simp [c])] at es
      exact ih _ (by rw [es]; exact nI_add _ 0)
  · intro f s hs
    have hs : s = nI (cnt (fun k => decide (a 1 k = 3)) n) := hs
    subst hs
    show lb_Mo_count_102 m f _ (nI n) = _
    unfold lb_Mo_count_102
    rw [hM.1, if_pos (nI_le (Nat.le_refl _) (by omega))]
theorem c_count {m : Me} (hI' : Inv m) (x0 : Int32) : PairI (f_NC_count x0 m) (f_Mo_count x0) := by
  obtain ⟨n, d, a, e, h, H, i⟩ := hI'
  obtain ⟨i1, i2, i3, i4, i5, i6, i7, i8, i9⟩ := id i
  obtain ⟨u, hu, rfl⟩ := arg x0
  have j := i.m0
  have cu : ∀ k : Nat, k ≤ 8 → ((iI u = iI (k : Int)) ↔ u = k) := fun k hk => iI_eq hu.1 hu.2 (by omega) (by omega)
  have c0 : (iI u = (0 : Int32)) ↔ u = 0 := cu 0 (by omega)
  have c1 : (iI u = (1 : Int32)) ↔ u = 1 := cu 1 (by omega)
  have c2 : (iI u = (2 : Int32)) ↔ u = 2 := cu 2 (by omega)
  have c3 : (iI u = (3 : Int32)) ↔ u = 3 := cu 3 (by omega)
  have c4 : (iI u = (4 : Int32)) ↔ u = 4 := cu 4 (by omega)
  have c5 : (iI u = (5 : Int32)) ↔ u = 5 := cu 5 (by omega)
  have mo : ∀ m1, f_Mo_count (iI u) m1 = (if u = 0 then some (((si m1 200 0 0).1 200 1), (si m1 200 0 0)) else if u = 1 then some (((si m1 200 0 0).1 200 2), (si m1 200 0 0)) else if u = 2 then ((fx (lb_Mo_count_60 (si m1 200 0 0)) (fun _ _ => none) FU) (0 : Int32) (0 : Int32)) else if u = 3 then some (((si m1 200 0 0).1 200 14), (si m1 200 0 0)) else if u = 4 then ((fx (lb_Mo_count_102 (si m1 200 0 0)) (fun _ _ => none) FU) (0 : Int32) (0 : Int32)) else if u = 5 then cI (f_Mo_most (si m1 200 0 0)) (fun v14 m15 => some (v14, m15)) else some ((-3 : Int32), (si m1 200 0 0))) := by
    intro m1
    unfold f_Mo_count
    rw [bdE]
    simp only [c0, c1, c2, c3, c4, c5]
  unfold f_NC_count
  simp only [c0, c1, c2, c3, c4, c5]
  by_cases u0 : u = 0
  · rw [if_pos u0]
    refine ⟨_, m, si m 200 0 0, rfl, ?_, j.inv⟩
    rw [mo, if_pos u0, j.2.2.1.1, i2.1]
  · rw [if_neg u0]
    by_cases u1 : u = 1
    · rw [if_pos u1]
      refine ⟨_, m, si m 200 0 0, rfl, ?_, j.inv⟩
      rw [mo, if_neg u0, if_pos u1, j.2.2.1.2.1, i2.2.1]
    · rw [if_neg u1]
      by_cases u2 : u = 2
      · rw [if_pos u2, left_eq i1 i2, cP_s]
        refine ⟨_, m, si m 200 0 0, rfl, ?_, j.inv⟩
        rw [mo, if_neg u0, if_neg u1, if_pos u2, mo60 i1 j.2.2.1]
      · rw [if_neg u2]
        by_cases u3 : u = 3
        · rw [if_pos u3]
          refine ⟨_, m, si m 200 0 0, rfl, ?_, j.inv⟩
          rw [mo, if_neg u0, if_neg u1, if_neg u2, if_pos u3, j.2.2.2.2.2.1.2.1, i5.2.1]
        · rw [if_neg u3]
          by_cases u4 : u = 4
          · rw [if_pos u4, musts_eq i1 i2, cP_s]
            refine ⟨_, m, si m 200 0 0, rfl, ?_, j.inv⟩
            rw [mo, if_neg u0, if_neg u1, if_neg u2, if_neg u3, if_pos u4, mo102 i1 j.2.2.1]
          · rw [if_neg u4]
            by_cases u5 : u = 5
            · rw [if_pos u5]
              obtain ⟨m1, e1, j1, k1, p1⟩ := splitUp_q i
              obtain ⟨G, m2, e2, g0, g1, f2⟩ := most_ok i1 (j1.m0).2.2.1
              obtain ⟨G', g0', g1', g2'⟩ := p1.2.2
              refine ⟨nI G, m1, m2, ?_, ?_, ((j1.m0).mod (f2.mo (fun _ _ q => SFp_q q))).inv⟩
              · rw [e1, cP_s, g1', g2'.uq g1]
              · rw [mo, if_neg u0, if_neg u1, if_neg u2, if_neg u3, if_neg u4, if_pos u5, e2, cI_s]
            · rw [if_neg u5]
              refine ⟨-3, m, si m 200 0 0, rfl, ?_, j.inv⟩
              rw [mo, if_neg u0, if_neg u1, if_neg u2, if_neg u3, if_neg u4, if_neg u5]
theorem ab127 {m : Me} {n d : Nat} {a : Ch} {k : Nat} (hV : VV n d a) (hM : MM m n d a) (hk : k < n) : ∃ m', (fx (lb_Mo_about_127 (nI k)) (fun _ _ _ => none) FU) 0 0 m = some (nI (cnt (fun v => opB n d a k v 0) (waysS a k)), m') ∧ Fm SD m m' := by
  have h24 := hV.1
  have w16 := waysS_le (a := a) (i := k)
  refine up aVM (waysS a k) (fun v s => s.1 = nI (cnt (fun v => opB n d a k v 0) v) ∧ Fm SD m s.2) (fun r => ∃ m', r = some (nI (cnt (fun v => opB n d a k v 0) (waysS a k)), m') ∧ Fm SD m m') 0 (0, m) (by omega) (by unfold FU; omega) ⟨rfl, Fm.rf⟩ ?_ ?_
  · rintro f v ⟨s, m1⟩ hv ⟨hs, f1⟩ ih
    have hs : s = nI (cnt (fun v => opB n d a k v 0) v) := hs
    have f1 : Fm SD m m1 := f1
    subst hs
    show ∃ m', lb_Mo_about_127 (nI k) f _ (nI v) m1 = some (_, m') ∧ _
    unfold lb_Mo_about_127
    have M1 := hM.fD f1
    have e : cnt (fun v => opB n d a k v 0) (v + 1) = cnt (fun v => opB n d a k v 0) v + (if opB n d a k v 0 = true then 1 else 0) := rfl
    obtain ⟨m2, e2, f2⟩ := moOpen_eq (w := v) (z := 0) hV M1 hk (by omega) (by omega)
    rw [moWays_eq hV M1 hk, cP_s, if_neg (nI_ge hv (by omega)), show f_Mo_isOpen (nI k) (nI v) 0 m1 = _ from e2, cI_s]
    simp only [bd, nI_1, bI_z]
    cases ho : opB n d a k v 0 with
    | false =>
      rw [ho, if_neg (by decide)] at e
      rw [if_pos rfl]
      exact ih (_, m2) ⟨by rw [e]; exact nI_add _ 0, f1.tr f2⟩
    | true =>
      rw [ho, if_pos rfl] at e
      rw [if_neg (by decide)]
      exact ih (_, m2) ⟨by rw [e]; rfl, f1.tr f2⟩
  · rintro f ⟨s, m1⟩ ⟨hs, f1⟩
    have hs : s = nI (cnt (fun v => opB n d a k v 0) (waysS a k)) := hs
    have f1 : Fm SD m m1 := f1
    subst hs
    show ∃ m', lb_Mo_about_127 (nI k) f _ (nI (waysS a k)) m1 = some (_, m') ∧ _
    unfold lb_Mo_about_127
    rw [moWays_eq hV (hM.fD f1) hk, cP_s, if_pos (nI_le (Nat.le_refl _) (by omega))]
    exact ⟨m1, rfl, f1⟩
theorem c_about {m : Me} (hI' : Inv m) (x0 y0 : Int32) : PairI (f_NC_about x0 y0 m) (f_Mo_about x0 y0) := by
  obtain ⟨n, d, a, e, h, H, i⟩ := hI'
  obtain ⟨i1, i2, i3, i4, i5, i6, i7, i8, i9⟩ := id i
  obtain ⟨x, hx, rfl⟩ := arg x0
  obtain ⟨u, hu, rfl⟩ := arg y0
  have n24 := i1.1
  have j := i.m0
  have cu : ∀ k : Nat, k ≤ 8 → ((iI u = iI (k : Int)) ↔ u = k) := fun k hk => iI_eq hu.1 hu.2 (by omega) (by omega)
  have c0 : (iI u = (0 : Int32)) ↔ u = 0 := cu 0 (by omega)
  have c1 : (iI u = (1 : Int32)) ↔ u = 1 := cu 1 (by omega)
  have c2 : (iI u = (2 : Int32)) ↔ u = 2 := cu 2 (by omega)
  have c3 : (iI u = (3 : Int32)) ↔ u = 3 := cu 3 (by omega)
  have c4 : (iI u = (4 : Int32)) ↔ u = 4 := cu 4 (by omega)
  have c5 : (iI u = (5 : Int32)) ↔ u = 5 := cu 5 (by omega)
  have c6 : (iI u = (6 : Int32)) ↔ u = 6 := cu 6 (by omega)
  have c7 : (iI u = (7 : Int32)) ↔ u = 7 := cu 7 (by omega)
  have c8 : (iI u = (8 : Int32)) ↔ u = 8 := cu 8 (by omega)
  have inu : ∀ m', f_Mo_in (iI u) 0 8 m' = some (bI (decide (0 ≤ u ∧ u ≤ 8))) := fun m' => in_eq (lo := 0) (hi := 8) hu (by unfold Rng; omega) (by unfold Rng; omega)
  have mo : ∀ m1, Iv m1 n d a e h H → f_Mo_about (iI x) (iI u) m1 = (if nmB n x = false then some ((-3 : Int32), si m1 200 0 0) else if decide (0 ≤ u ∧ u ≤ 8) = false then some ((-3 : Int32), si m1 200 0 0) else if u = 0 then rd (ln 201) (iI x) ((si m1 200 0 0).1 201) (fun v4 => some (v4, (si m1 200 0 0))) else if u = 1 then rd (ln 202) (iI x) ((si m1 200 0 0).1 202) (fun v5 => some (v5, (si m1 200 0 0))) else if u = 2 then rd (ln 203) (iI x) ((si m1 200 0 0).1 203) (fun v6 => some (v6, (si m1 200 0 0))) else if u = 3 then rd (ln 204) (iI x) ((si m1 200 0 0).1 204) (fun v7 => some (v7, (si m1 200 0 0))) else if u = 4 then rd (ln 205) (iI x) ((si m1 200 0 0).1 205) (fun v8 => some (v8, (si m1 200 0 0))) else if u = 5 then rd (ln 206) (iI x) ((si m1 200 0 0).1 206) (fun v9 => some (v9, (si m1 200 0 0))) else if u = 6 then cP (f_Mo_ways (iI x) (si m1 200 0 0)) (fun v10 => some (v10, (si m1 200 0 0))) else if u = 7 then ((fx (lb_Mo_about_127 (iI x)) (fun _ _ _ => none) FU) (0 : Int32) (0 : Int32) (si m1 200 0 0)) else cI (f_Mo_findParts (si m1 200 0 0)) (fun v20 m21 => rd (ln 213) (iI x) (m21.1 213) (fun v22 => some (v22, m21)))) := by
    intro m1 j1
    unfold f_Mo_about
    rw [bdE, name_eq hx n24 (j1.m0).2.2.1.1, cP_s, inu, cP_s]
    simp only [bI_z, c0, c1, c2, c3, c4, c5, c6, c7]
  unfold f_NC_about
  rw [has_eq hx n24 i2.1, cP_s]
  simp only [bI_z, c0, c1, c2, c3, c4, c5, c6, c7, c8]
  cases hb : nmB n x with
  | false =>
    rw [if_pos rfl]
    refine ⟨-3, m, si m 200 0 0, rfl, ?_, j.inv⟩
    rw [mo m i, hb, if_pos rfl]
  | true =>
    rw [if_neg (by decide)]
    obtain ⟨ix, hix, rfl⟩ := nm_get hb
    have w16 := waysS_le (a := a) (i := ix)
    by_cases ub : 0 ≤ u ∧ u ≤ 8
    · have mo' : ∀ m1, Iv m1 n d a e h H → _ := fun m1 j1 => by
        have q := mo m1 j1
        rw [hb, decide_eq_true ub, if_neg (by decide), if_neg (by decide), ← nI_i ix] at q
        exact q
      rw [← nI_i ix]
      have row : ∀ k, 1 ≤ k → k ≤ 6 → ln (10 + k) = 24 → ln (200 + k) = 24 → rd (ln (10 + k)) (nI ix) (m.1 (10 + k)) (fun v => some (v, m)) = some (nI (a k ix), m) ∧ rd (ln (200 + k)) (nI ix) ((si m 200 0 0).1 (200 + k)) (fun v => some (v, si m 200 0 0)) = some (nI (a k ix), si m 200 0 0) := by
        intro k k1 k2 l1 l2
        rw [l1, l2, rd_n (by omega) (by omega), rd_n (by omega) (by omega), i2.2.2.1 k ix k1 k2 hix, j.2.2.1.2.2.1 k ix k1 (by omega) hix]
        exact ⟨rfl, rfl⟩
      by_cases u0 : u = 0
      · rw [if_pos u0]
        obtain ⟨r1, r2⟩ := row 1 (by omega) (by omega) rfl rfl
        exact ⟨_, m, _, r1, by rw [mo' m i, if_pos u0]; exact r2, j.inv⟩
      · rw [if_neg u0]
        by_cases u1 : u = 1
        · rw [if_pos u1]
          obtain ⟨r1, r2⟩ := row 2 (by omega) (by omega) rfl rfl
          exact ⟨_, m, _, r1, by rw [mo' m i, if_neg u0, if_pos u1]; exact r2, j.inv⟩
        · rw [if_neg u1]
          by_cases u2 : u = 2
          · rw [if_pos u2]
            obtain ⟨r1, r2⟩ := row 3 (by omega) (by omega) rfl rfl
            exact ⟨_, m, _, r1, by rw [mo' m i, if_neg u0, if_neg u1, if_pos u2]; exact r2, j.inv⟩
          · rw [if_neg u2]
            by_cases u3 : u = 3
            · rw [if_pos u3]
              obtain ⟨r1, r2⟩ := row 4 (by omega) (by omega) rfl rfl
              exact ⟨_, m, _, r1, by rw [mo' m i, if_neg u0, if_neg u1, if_neg u2, if_pos u3]; exact r2, j.inv⟩
            · rw [if_neg u3]
              by_cases u4 : u = 4
              · rw [if_pos u4]
                obtain ⟨r1, r2⟩ := row 5 (by omega) (by omega) rfl rfl
                exact ⟨_, m, _, r1, by rw [mo' m i, if_neg u0, if_neg u1, if_neg u2, if_neg u3, if_pos u4]; exact r2, j.inv⟩
              · rw [if_neg u4]
                by_cases u5 : u = 5
                · rw [if_pos u5]
                  obtain ⟨r1, r2⟩ := row 6 (by omega) (by omega) rfl rfl
                  exact ⟨_, m, _, r1, by rw [mo' m i, if_neg u0, if_neg u1, if_neg u2, if_neg u3, if_neg u4, if_pos u5]; exact r2, j.inv⟩
                · rw [if_neg u5]
                  by_cases u6 : u = 6
                  · rw [if_pos u6, ways_eq i1 i2 hix, cP_s]
                    refine ⟨_, m, _, rfl, ?_, j.inv⟩
                    rw [mo' m i, if_neg u0, if_neg u1, if_neg u2, if_neg u3, if_neg u4, if_neg u5, if_pos u6, moWays_eq i1 j.2.2.1 hix, cP_s]
                  · rw [if_neg u6]
                    by_cases u7 : u = 7
                    · rw [if_pos u7]
                      obtain ⟨m1, e1, j1, k1⟩ := layOut_q i
                      obtain ⟨m2, e2, f2⟩ := ab127 i1 (j1.m0).2.2.1 hix
                      refine ⟨nI (cnt (fun v => opB n d a ix v 0) (waysS a ix)), m1, m2, ?_, ?_, ((j1.m0).fD f2).inv⟩
                      · unfold f_NC_openWays
                        rw [e1, cP_s, show ln 5 = 24 from rfl, rd_n (by omega) (by omega), bitCount_eq (fun v hv => by rw [(k1 ix hix).2 v]; unfold owB; simp [show ¬ v < waysS a ix by omega]), cP_s, cI_s, ← cnt_cut w16]
                        congr 3
                        refine cnt_cg (fun v hv => ?_)
                        rw [(k1 ix hix).2 v]
                        rfl
                      · rw [mo' m1 j1, if_neg u0, if_neg u1, if_neg u2, if_neg u3, if_neg u4, if_neg u5, if_neg u6, if_pos u7]
                        exact e2
                    · rw [if_neg u7, if_pos (show u = 8 by omega)]
                      obtain ⟨m1, e1, j1, k1, p1⟩ := splitUp_q i
                      obtain ⟨m2, e2, a2, O2, f2⟩ := findParts_ok i1 (j1.m0).2.2.1
                      refine ⟨nI (pnS (rtS (tcB n d a) n) ix), m1, m2, ?_, ?_, ((j1.m0).mod (f2.mo (fun _ _ q => SFp_q q))).inv⟩
                      · rw [e1, cP_s, show ln 7 = 24 from rfl, rd_n (by omega) (by omega), p1.1 ix hix]
                      · rw [mo' m1 j1, if_neg u0, if_neg u1, if_neg u2, if_neg u3, if_neg u4, if_neg u5, if_neg u6, if_neg u7, e2, cI_s, show ln 213 = 24 from rfl, rd_n (by omega) (by omega), a2 ix hix]
    · rw [if_neg (by omega), if_neg (by omega), if_neg (by omega), if_neg (by omega), if_neg (by omega), if_neg (by omega), if_neg (by omega), if_neg (by omega), if_neg (by omega)]
      refine ⟨-3, m, si m 200 0 0, rfl, ?_, j.inv⟩
      rw [mo m i, hb, decide_eq_false ub, if_neg (by decide), if_pos rfl]
