/-! PURE PART: clashes, parts, about, count, steady, there -/
theorem cnt_cut {f : Nat → Bool} {W N : Nat} (h : W ≤ N) : cnt (fun v => decide (v < W) && f v) N = cnt f W := by
  induction N with
  | zero => rw [show W = 0 by omega]; rfl
  | succ N ih =>
    by_cases q : W = N + 1
    · rw [q]
      exact cnt_cg (fun i hi => by simp [hi])
    · show cnt (fun v => decide (v < W) && f v) N + (if (decide (N < W) && f N) = true then 1 else 0) = _
      rw [ih (by omega), if_neg (by simp [show ¬ N < W by omega])]
      rfl
noncomputable def ncS (n d : Nat) (a : Ch) (i w o : Nat) : Nat := if o = i then 0 else cnt (fun v => opB n d a o v 0 && clB a i w o v 0) (waysS a o)
theorem nc_le {n d : Nat} {a : Ch} {i w o : Nat} : ncS n d a i w o ≤ 16 := by
  unfold ncS
  have := cnt_le (fun v => opB n d a o v 0 && clB a i w o v 0) (waysS a o)
  have := waysS_le (a := a) (i := o)
  split <;> omega
theorem clashesC {m : Me} {n d : Nat} {a : Ch} {i w : Nat} (hV : VV n d a) (hC : CC m 10 n d a) (hL : LK m n d a) (hi : i < n) (hw : w < waysS a i) : (fx (lb_NC_clashes_24 (nI i) (nI w) m) (fun _ _ => none) FU) 0 0 = some (nI (sumS (ncS n d a i w) n), m) := by
  have h24 := hV.1
  refine up aV n (fun k s => s = nI (sumS (ncS n d a i w) k)) (fun r => r = some (nI (sumS (ncS n d a i w) n), m)) 0 0 (by omega) (by unfold FU; omega) rfl ?_ ?_
  · intro f k s hk hs ih
    have hs : s = nI (sumS (ncS n d a i w) k) := hs
    subst hs
    show lb_NC_clashes_24 (nI i) (nI w) m f _ (nI k) = _
    unfold lb_NC_clashes_24
    have e : sumS (ncS n d a i w) (k + 1) = sumS (ncS n d a i w) k + ncS n d a i w k := rfl
    rw [hC.1, if_neg (nI_ge hk (by omega))]
    simp only [bd, nI_1]
    by_cases q : k = i
    · rw [if_pos (by rw [q])]
      exact ih _ (by rw [e, show ncS n d a i w k = 0 by unfold ncS; rw [if_pos q]]; rfl)
    · rw [if_neg (nI_ne (by omega) (by omega) q)]
      obtain ⟨x, ex, bx'⟩ := openHits_eq hV hL hi hk hw
      have w16 := waysS_le (a := a) (i := k)
      rw [ex]
      simp only [cP_s]
      have hz : ∀ v, 16 ≤ v → bb x v = false := fun v hv => by
        rw [bx' v]
        unfold owB
        simp [show ¬ v < waysS a k by omega]
      rw [bitCount_eq hz]
      simp only [cP_s, nI_add]
      refine ih _ ?_
      rw [e]
      congr 2
      unfold ncS
      rw [if_neg q, ← cnt_cut w16]
      refine cnt_cg (fun v hv => ?_)
      rw [bx' v]
      unfold owB
      rw [Bool.and_assoc]
  · intro f s hs
    have hs : s = nI (sumS (ncS n d a i w) n) := hs
    subst hs
    show lb_NC_clashes_24 (nI i) (nI w) m f _ (nI n) = _
    unfold lb_NC_clashes_24
    rw [hC.1, if_pos (nI_le (Nat.le_refl _) (by omega))]
theorem clashes34 {m : Me} {n d : Nat} {a : Ch} {i w k : Nat} {s0 : Nat} {K : Int32 → Me → Option (Int32 × Me)} {Q : Option (Int32 × Me) → Prop} (hV : VV n d a) (hM : MM m n d a) (hi : i < n) (hw : w < waysS a i) (hk : k < n)
    (hK : ∀ m', Fm SD m m' → Q (K (nI (s0 + ncS n d a i w k)) m')) : Q ((fx (lb_Mo_clashes_34 (nI i) (nI w) (nI k) K) (fun _ _ _ => none) FU) (nI s0) 0 m) := by
  have h24 := hV.1
  have w16 := waysS_le (a := a) (i := k)
  have w16' := waysS_le (a := a) (i := i)
  refine up aVM (waysS a k) (fun v s => s.1 = nI (s0 + (if k = i then 0 else cnt (fun v => opB n d a k v 0 && clB a i w k v 0) v)) ∧ Fm SD m s.2) Q 0 (nI s0, m) (by omega) (by unfold FU; omega) ⟨by split <;> rfl, Fm.rf⟩ ?_ ?_
  · rintro f v ⟨s, m1⟩ hv ⟨hs, f1⟩ ih
    have hs : s = nI (s0 + (if k = i then 0 else cnt (fun v => opB n d a k v 0 && clB a i w k v 0) v)) := hs
    have f1 : Fm SD m m1 := f1
    show Q (lb_Mo_clashes_34 (nI i) (nI w) (nI k) K f s (nI v) m1)
    unfold lb_Mo_clashes_34
    have M1 := hM.fD f1
    rw [moWays_eq hV M1 hk, cP_s, if_neg (nI_ge hv (by omega))]
    by_cases q : k = i
    · rw [if_pos (by rw [q]), hs, if_pos q]
      have := hK m1 f1
      unfold ncS at this
      rw [if_pos q] at this
      exact this
    · rw [if_neg (nI_ne (by omega) (by omega) q), hs, if_neg q]
      have e : cnt (fun v => opB n d a k v 0 && clB a i w k v 0) (v + 1) = cnt (fun v => opB n d a k v 0 && clB a i w k v 0) v + (if (opB n d a k v 0 && clB a i w k v 0) = true then 1 else 0) := rfl
      have nx : ∀ (b : Bool) m2, b = (opB n d a k v 0 && clB a i w k v 0) → Fm SD m m2 → Q (f (nI (s0 + cnt (fun v => opB n d a k v 0 && clB a i w k v 0) v) + bI b) (nI (v + 1)) m2) := by
        intro b m2 hb f2
        refine ih (_, m2) ⟨?_, f2⟩
        show _ = nI (s0 + (if k = i then 0 else cnt (fun v => opB n d a k v 0 && clB a i w k v 0) (v + 1)))
        rw [if_neg q, e, ← hb]
        cases b
        · exact nI_add _ 0
        · exact nI_add _ 1
      obtain ⟨m2, e2, f2⟩ := moOpen_eq (w := v) (z := 0) hV M1 hk (by omega) (by omega)
      rw [show f_Mo_isOpen (nI k) (nI v) 0 m1 = _ from e2, cI_s]
      simp only [bd, nI_1, bI_z]
      cases ho : opB n d a k v 0 with
      | false =>
        rw [if_pos rfl]
        exact nx false m2 (by rw [ho]; rfl) (f1.tr f2)
      | true =>
        rw [if_neg (by decide)]
        obtain ⟨m3, e3, f3⟩ := doClash_eq (z := 0) hV (M1.fD f2) hi hk (show w < 16 by omega) (show v < 16 by omega) (by omega)
        rw [show f_Mo_doClash (nI i) (nI w) (nI k) (nI v) 0 m2 = _ from e3, cI_s]
        simp only [bI_z]
        cases hc : clB a i w k v 0 with
        | false =>
          rw [if_pos rfl]
          exact nx false m3 (by rw [ho, hc]; rfl) ((f1.tr f2).tr f3)
        | true =>
          rw [if_neg (by decide)]
          have := nx true m3 (by rw [ho, hc]; rfl) ((f1.tr f2).tr f3)
          rw [show ∀ t : Nat, nI t + bI true = nI (t + 1) from fun t => nI_1 t] at this
          exact this
  · rintro f ⟨s, m1⟩ ⟨hs, f1⟩
    have hs : s = nI (s0 + (if k = i then 0 else cnt (fun v => opB n d a k v 0 && clB a i w k v 0) (waysS a k))) := hs
    have f1 : Fm SD m m1 := f1
    show Q (lb_Mo_clashes_34 (nI i) (nI w) (nI k) K f s (nI (waysS a k)) m1)
    unfold lb_Mo_clashes_34
    rw [moWays_eq hV (hM.fD f1) hk, cP_s, if_pos (nI_le (Nat.le_refl _) (by omega)), hs]
    exact hK m1 f1
theorem c_clashes {m : Me} (hI' : Inv m) (x0 y0 : Int32) : PairI (f_NC_clashes x0 y0 m) (f_Mo_clashes x0 y0) := by
  obtain ⟨n, d, a, e, h, H, i⟩ := hI'
  obtain ⟨i1, i2, i3, i4, i5, i6, i7, i8, i9⟩ := id i
  obtain ⟨x, hx, rfl⟩ := arg x0
  obtain ⟨y, hy, rfl⟩ := arg y0
  have n24 := i1.1
  unfold f_NC_clashes
  rw [hasWay_eq hx hy i1 i2, cP_s]
  simp only [bI_z]
  cases hb : hwB n a x y with
  | false =>
    rw [if_pos rfl]
    refine ⟨-3, m, si m 200 0 0, rfl, ?_, i.m0.inv⟩
    unfold f_Mo_clashes
    rw [bdE, isWay_eq hx hy i1 (i.m0).2.2.1, cP_s]
    simp only [bI_z]
    rw [hb, if_pos rfl]
  | true =>
    obtain ⟨ix, w, hix, hw, rfl, rfl⟩ := hw_get hb
    obtain ⟨m1, e1, j1, k1⟩ := layOut_q i
    have j := j1.m0
    rw [if_neg (by decide), e1, cP_s, ← nI_i ix, ← nI_i w, clashesC i1 j1.2.1 k1 hix hw]
    have B : ∃ m2, f_Mo_clashes (nI ix) (nI w) m1 = some (nI (sumS (ncS n d a ix w) n), m2) ∧ Fm SD (si m1 200 0 0) m2 := by
      unfold f_Mo_clashes
      rw [bdE, nI_i ix, nI_i w, isWay_eq hx hy i1 j.2.2.1, cP_s]
      simp only [bI_z]
      rw [hb, if_neg (by decide), ← nI_i ix, ← nI_i w]
      refine up aVM n (fun k s => s.1 = nI (sumS (ncS n d a ix w) k) ∧ Fm SD (si m1 200 0 0) s.2) (fun r => ∃ m2, r = some (nI (sumS (ncS n d a ix w) n), m2) ∧ Fm SD (si m1 200 0 0) m2) 0 (0, si m1 200 0 0) (by omega) (by unfold FU; omega) ⟨rfl, Fm.rf⟩ ?_ ?_
      · rintro f k ⟨s, m2⟩ hk ⟨hs, f2⟩ ih
        have hs : s = nI (sumS (ncS n d a ix w) k) := hs
        have f2 : Fm SD (si m1 200 0 0) m2 := f2
        subst hs
        show ∃ m3, lb_Mo_clashes_22 (nI ix) (nI w) f _ (nI k) m2 = some (_, m3) ∧ _
        unfold lb_Mo_clashes_22
        have M2 := j.2.2.1.fD f2
        rw [M2.1, if_neg (nI_ge hk (by omega)), bdE]
        refine clashes34 (Q := fun r => ∃ m2, r = some (nI (sumS (ncS n d a ix w) n), m2) ∧ Fm SD (si m1 200 0 0) m2) i1 M2 hix hw hk ?_
        intro m3 f3
        rw [bdE, nI_1]
        exact ih (_, m3) ⟨rfl, f2.tr f3⟩
      · rintro f ⟨s, m2⟩ ⟨hs, f2⟩
        have hs : s = nI (sumS (ncS n d a ix w) n) := hs
        have f2 : Fm SD (si m1 200 0 0) m2 := f2
        subst hs
        show ∃ m3, lb_Mo_clashes_22 (nI ix) (nI w) f _ (nI n) m2 = some (_, m3) ∧ _
        unfold lb_Mo_clashes_22
        rw [(j.2.2.1.fD f2).1, if_pos (nI_le (Nat.le_refl _) (by omega))]
        exact ⟨m2, rfl, f2⟩
    obtain ⟨m2, e2, f2⟩ := B
    exact ⟨_, m1, m2, rfl, e2, (j.fD f2).inv⟩
theorem SFp_q {o j : Nat} (h : SFp o j) : SMq o j := by
  unfold SFp SD at h
  unfold SMq
  omega
theorem c_parts {m : Me} (hI' : Inv m) : PairI (f_NC_parts m) f_Mo_parts := by
  obtain ⟨n, d, a, e, h, H, i⟩ := hI'
  have i1 := i.1
  obtain ⟨m1, e1, j1, k1, p1⟩ := splitUp_q i
  have j := j1.m0
  obtain ⟨m2, e2, a2, O2, f2⟩ := findParts_ok i1 j.2.2.1
  refine ⟨nI (nrS (rtS (tcB n d a) n) n), m1, m2, ?_, ?_, (j.mod (f2.mo (fun _ _ q => SFp_q q))).inv⟩
  · unfold f_NC_parts
    rw [e1, cP_s, p1.2.1]
  · unfold f_Mo_parts
    rw [bdE, e2, cI_s]
/-! steady, there -/
theorem SZ_q {o j : Nat} (h : SZ o j) : SMq o j := by
  unfold SZ SD at h
  unfold SMq
  omega
theorem c_steady {m : Me} (hI' : Inv m) (x0 y0 : Int32) : PairI (f_NC_steady x0 y0 m) (f_Mo_steady x0 y0) := by
  obtain ⟨n, d, a, e, h, H, i⟩ := hI'
  obtain ⟨i1, i2, i3, i4, i5, i6, i7, i8, i9⟩ := id i
  obtain ⟨x, hx, rfl⟩ := arg x0
  obtain ⟨y, hy, rfl⟩ := arg y0
  have n24 := i1.1
  have ey : (iI y = 0) ↔ y = 0 := iI_eq (b := 0) hy.1 hy.2 (by omega) (by omega)
  have mo : ∀ m1, Iv m1 n d a e h H → f_Mo_steady (iI x) (iI y) m1 = (if nmB n x = false then some ((-3 : Int32), si m1 200 0 0) else if decide (0 ≤ y ∧ y ≤ 1) = false then some ((-3 : Int32), si m1 200 0 0) else cP (f_Mo_findSteady (si m1 200 0 0)) (fun m4 => rd (ln 221) (iI x) (m4.1 221) (fun v5 => if v5 = (7 : Int32) then some ((-1 : Int32), m4) else if y = 0 then rd (ln 221) (iI x) (m4.1 221) (fun v7 => some (v7, m4)) else rd (ln 222) (iI x) (m4.1 222) (fun v6 => some (v6, m4))))) := by
    intro m1 j1
    unfold f_Mo_steady
    rw [bdE, name_eq hx n24 (j1.m0).2.2.1.1, cP_s, show f_Mo_in (iI y) 0 1 _ = _ from in_eq (lo := 0) (hi := 1) hy (by unfold Rng; omega) (by unfold Rng; omega), cP_s]
    simp only [bI_z, ey]
  unfold f_NC_steady
  rw [has_eq hx n24 i2.1, cP_s, show f_NC_within (iI y) 0 1 _ = _ from within_eq (lo := 0) (hi := 1) hy (by unfold Rng; omega) (by unfold Rng; omega), cP_s]
  simp only [bI_z, ey]
  cases hb : nmB n x with
  | false =>
    rw [if_pos rfl]
    refine ⟨-3, m, si m 200 0 0, rfl, ?_, i.m0.inv⟩
    rw [mo m i, hb, if_pos rfl]
  | true =>
    rw [if_neg (by decide)]
    cases hw : decide (0 ≤ y ∧ y ≤ 1) with
    | false =>
      rw [if_pos rfl]
      refine ⟨-3, m, si m 200 0 0, rfl, ?_, i.m0.inv⟩
      rw [mo m i, hb, hw, if_neg (by decide), if_pos rfl]
    | true =>
      rw [if_neg (by decide)]
      obtain ⟨ix, hix, rfl⟩ := nm_get hb
      obtain ⟨m1, e1, j1, k1⟩ := plan_q i
      have j := j1.m0
      obtain ⟨m2, e2, a2, f2⟩ := findSteady_ok i1 j.2.2.1
      have G := pl_fg n d a n ix hix
      have w16 := waysS_le (a := a) (i := ix)
      have mo' := mo m1 j1
      rw [hb, hw, if_neg (by decide), if_neg (by decide), e2, cP_s, ← nI_i ix, show ln 221 = 24 from rfl, show ln 222 = 24 from rfl, rd_n (by omega) (by omega), rd_n (by omega) (by omega), rd_n (by omega) (by omega), (a2 ix hix).1, (a2 ix hix).2] at mo'
      rw [e1, cP_s, ← nI_i ix, show ln 106 = 24 from rfl, show ln 107 = 24 from rfl, rd_n (by omega) (by omega), rd_n (by omega) (by omega), (k1 ix hix).1, (k1 ix hix).2]
      refine ⟨if y = 0 then zI (plS n d a n ix).1 else hI (plS n d a n ix).2, m1, m2, by split <;> rfl, ?_, (j.mod (f2.mo (fun _ _ q => SZ_q q))).inv⟩
      rw [mo']
      rcases G with q | ⟨q1, q2⟩
      · rw [q]
        rw [if_pos (show nI (7, 16).1 = (7 : Int32) from rfl)]
        split <;> rfl
      · rw [if_neg (show ¬ nI (plS n d a n ix).1 = (7 : Int32) from nI_ne (b := 7) (by omega) (by decide) (by omega))]
        by_cases y0 : y = 0
        · rw [if_pos y0, if_pos y0, show zI (plS n d a n ix).1 = nI (plS n d a n ix).1 by unfold zI; rw [if_neg (by omega)]]
        · rw [if_neg y0, if_neg y0, hI_lt (by omega)]
theorem c_there {m : Me} (hI' : Inv m) (x0 : Int32) : PairI (f_NC_there x0 m) (f_Mo_there x0) := by
  obtain ⟨n, d, a, e, h, H, i⟩ := hI'
  obtain ⟨i1, i2, i3, i4, i5, i6, i7, i8, i9⟩ := id i
  obtain ⟨x, hx, rfl⟩ := arg x0
  have n24 := i1.1
  have inx : ∀ m', f_Mo_in (iI x) 0 6 m' = some (bI (decide (0 ≤ x ∧ x ≤ 6))) := fun m' => in_eq (lo := 0) (hi := 6) hx (by unfold Rng; omega) (by unfold Rng; omega)
  unfold f_NC_there
  rw [zoom_eq hx, cP_s]
  simp only [bI_z]
  cases hw : decide (0 ≤ x ∧ x ≤ 6) with
  | false =>
    rw [if_pos rfl]
    refine ⟨-3, m, si m 200 0 0, rfl, ?_, i.m0.inv⟩
    unfold f_Mo_there
    rw [bdE, inx, cP_s]
    simp only [bI_z]
    rw [hw, if_pos rfl]
  | true =>
    rw [if_neg (by decide)]
    obtain ⟨z, -, z6, rfl⟩ := in_get (lo := 0) (hi := 6) hw
    obtain ⟨m1, e1, j1, k1⟩ := plan_q i
    have j := j1.m0
    obtain ⟨m2, e2, a2, f2⟩ := findSteady_ok i1 j.2.2.1
    have G := pl_fg n d a n
    rw [e1, cP_s, ← nI_i z]
    refine ⟨nI (cnt (fun k => decide ((plS n d a n k).1 ≤ z)) n), m1, m2, ?_, ?_, (j.mod (f2.mo (fun _ _ q => SZ_q q))).inv⟩
    · refine up aV n (fun k s => s = nI (cnt (fun k => decide ((plS n d a n k).1 ≤ z)) k)) (fun r => r = some (nI (cnt (fun k => decide ((plS n d a n k).1 ≤ z)) n), m1)) 0 0 (by omega) (by unfold FU; omega) rfl ?_ ?_
      · intro f k s hk hs ih
        have hs : s = nI (cnt (fun k => decide ((plS n d a n k).1 ≤ z)) k) := hs
        subst hs
        show lb_NC_there_25 (nI z) m1 f _ (nI k) = _
        unfold lb_NC_there_25
        have es : cnt (fun k => decide ((plS n d a n k).1 ≤ z)) (k + 1) = cnt (fun k => decide ((plS n d a n k).1 ≤ z)) k + (if decide ((plS n d a n k).1 ≤ z) = true then 1 else 0) := rfl
        rw [j1.2.1.1, if_neg (nI_ge hk (by omega)), isThere_eq n24 G k1 hk (by omega), cP_s, yes_b, cP_s, bdE, bdE, nI_1]
        refine ih _ ?_
        show _ = nI (cnt (fun k => decide ((plS n d a n k).1 ≤ z)) (k + 1))
        rw [es]
        cases decide ((plS n d a n k).1 ≤ z)
        · exact nI_add _ 0
        · exact nI_add _ 1
      · intro f s hs
        have hs : s = nI (cnt (fun k => decide ((plS n d a n k).1 ≤ z)) n) := hs
        subst hs
        show lb_NC_there_25 (nI z) m1 f _ (nI n) = _
        unfold lb_NC_there_25
        rw [j1.2.1.1, if_pos (nI_le (Nat.le_refl _) (by omega))]
    · unfold f_Mo_there
      rw [bdE, nI_i z, inx, cP_s]
      simp only [bI_z]
      rw [hw, if_neg (by decide), e2, cP_s, ← nI_i z]
      have M2 : MM m2 n d a := (j.mod (f2.mo (fun _ _ q => SZ_q q))).2.2.1
      refine up aV n (fun k s => s = nI (cnt (fun k => decide ((plS n d a n k).1 ≤ z)) k)) (fun r => r = some (nI (cnt (fun k => decide ((plS n d a n k).1 ≤ z)) n), m2)) 0 0 (by omega) (by unfold FU; omega) rfl ?_ ?_
      · intro f k s hk hs ih
        have hs : s = nI (cnt (fun k => decide ((plS n d a n k).1 ≤ z)) k) := hs
        subst hs
        show lb_Mo_there_26 (nI z) m2 f _ (nI k) = _
        unfold lb_Mo_there_26
        have es : cnt (fun k => decide ((plS n d a n k).1 ≤ z)) (k + 1) = cnt (fun k => decide ((plS n d a n k).1 ≤ z)) k + (if decide ((plS n d a n k).1 ≤ z) = true then 1 else 0) := rfl
        have b7 : (plS n d a n k).1 ≤ 7 := by
          rcases G k hk with q | ⟨q, -⟩
          · rw [q]; exact Nat.le_refl 7
          · omega
        rw [M2.1, if_neg (nI_ge hk (by omega)), show ln 221 = 24 from rfl, rd_n (by omega) (by omega), (a2 k hk).1]
        simp only [bd, nI_1]
        by_cases c : (plS n d a n k).1 ≤ z
        · rw [if_neg (nI_nlt c (by omega))]
          rw [if_pos (by simp [c])] at es
          exact ih _ (by rw [es])
        · rw [if_pos (nI_lt (by omega) (by omega))]
          rw [if_neg (by simp [c])] at es
          exact ih _ (by rw [es]; exact nI_add _ 0)
      · intro f s hs
        have hs : s = nI (cnt (fun k => decide ((plS n d a n k).1 ≤ z)) n) := hs
        subst hs
        show lb_Mo_there_26 (nI z) m2 f _ (nI n) = _
        unfold lb_Mo_there_26
        rw [M2.1, if_pos (nI_le (Nat.le_refl _) (by omega))]
