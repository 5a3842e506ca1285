/-! PURE PART: the plan of zooms, the reference's side -/
theorem bdE {α β : Type} (x : α) (k : α → β) : bd x k = k x := by
  have h : ∀ y, y = k x → y = k x := fun _ q => q
  exact h _ rfl
theorem fit_q {n d : Nat} {a : Ch} {i x w z : Nat} (hi : i ≤ n) (hz : z < 7) : fitB n d a (plS n d a i) x w z = (opB n d a x w z && !(anyB (fun k => decide ((plS n d a i (qS a n k)).1 ≤ z) && clB a x w (qS a n k) (plS n d a i (qS a n k)).2 z) i)) := by
  unfold fitB
  congr 2
  cases h : anyB (fun k => decide ((plS n d a i (qS a n k)).1 ≤ z) && clB a x w (qS a n k) (plS n d a i (qS a n k)).2 z) i with
  | true =>
    obtain ⟨k, hk, e⟩ := anyB_t.mp h
    exact anyB_t.mpr ⟨qS a n k, qS_lt (by omega), e⟩
  | false =>
    refine anyB_f.mpr (fun o ho => ?_)
    by_cases c : ∃ j, j < i ∧ qS a n j = o
    · obtain ⟨j, hj, e⟩ := c
      rw [← e]
      exact anyB_f.mp h j hj
    · rw [pl_no (fun j hj q => c ⟨j, hj, q⟩)]
      simp
      omega
def MZ (m : Me) (n : Nat) (a : Ch) (F : Nat → Nat × Nat) (i : Nat) : Prop := ∀ k, k < i → m.1 221 (qS a n k) = nI (F (qS a n k)).1 ∧ m.1 222 (qS a n k) = nI (F (qS a n k)).2
def MQo (m : Me) (n : Nat) (a : Ch) : Prop := ∀ j, j < n → m.1 220 j = nI (qS a n j)
set_option maxHeartbeats 1000000 in
theorem isSteady_eq {m : Me} {n d : Nat} {a : Ch} {i w z : Nat} (hV : VV n d a) (hM : MM m n d a) (hQ : MQo m n a) (hZ : MZ m n a (plS n d a i) i) (hi : i < n) (hw : w < waysS a (qS a n i)) (hz : z < 7) :
    ∃ m', f_Mo_isSteady (nI i) (nI w) (nI z) m = some (bI (decide (zmB n d a (plS n d a i) (qS a n i) w ≤ z)), m') ∧ Fm SD m m' := by
  have h24 := hV.1
  have lq := qS_lt (a := a) hi
  have w16 := waysS_le (a := a) (i := qS a n i)
  have G := pl_fg n d a i
  unfold f_Mo_isSteady
  rw [show ln 220 = 24 from rfl, rd_n (by omega) (by omega), hQ i hi]
  have key : zmB n d a (plS n d a i) (qS a n i) w ≤ z ↔ ∀ y, z ≤ y → y < 7 → fitB n d a (plS n d a i) (qS a n i) w y = true := zm_iff (by omega)
  refine up aM 7 (fun y m' => (∀ u, z ≤ u → u < y → fitB n d a (plS n d a i) (qS a n i) w u = true) ∧ z ≤ y ∧ Fm SD m m') (fun r => ∃ m', r = some (bI (decide (zmB n d a (plS n d a i) (qS a n i) w ≤ z)), m') ∧ Fm SD m m') z m (by omega) (by unfold FU; omega) ⟨fun u h1 h2 => by omega, Nat.le_refl _, Fm.rf⟩ ?_ ?_
  · rintro f y m1 hy ⟨a1, zy, f1⟩ ih
    show ∃ m', lb_Mo_isSteady_11 (nI i) (nI w) (nI (qS a n i)) f (nI y) m1 = some (_, m') ∧ _
    unfold lb_Mo_isSteady_11
    obtain ⟨m2, e2, f2⟩ := moOpen_eq (z := y) hV (hM.fD f1) lq (show w < 16 by omega) hy
    rw [if_neg (show ¬ (6 : Int32) < nI y from nI_nlt (a := 6) (by omega) (by decide)), e2]
    simp only [cI, bd, bI_z, nI_1]
    have no : ∀ m3, Fm SD m m3 → fitB n d a (plS n d a i) (qS a n i) w y = false → ∃ m', some ((0 : Int32), m3) = some (bI (decide (zmB n d a (plS n d a i) (qS a n i) w ≤ z)), m') ∧ Fm SD m m' := by
      intro m3 f3 hf
      refine ⟨m3, ?_, f3⟩
      rw [decide_eq_false (fun q => by have := key.mp q y zy hy; rw [hf] at this; cases this)]
      rfl
    have ft := fit_q (n := n) (d := d) (a := a) (i := i) (x := qS a n i) (w := w) (z := y) (by omega) hy
    cases ho : opB n d a (qS a n i) w y with
    | false =>
      rw [if_pos rfl]
      exact no m2 (f1.tr f2) (by rw [ft, ho]; rfl)
    | true =>
      rw [if_neg (by decide)]
      rw [ho, Bool.true_and] at ft
      refine up aM i (fun k m' => (∀ u, u < k → (decide ((plS n d a i (qS a n u)).1 ≤ y) && clB a (qS a n i) w (qS a n u) (plS n d a i (qS a n u)).2 y) = false) ∧ Fm SD m m') (fun r => ∃ m', r = some (bI (decide (zmB n d a (plS n d a i) (qS a n i) w ≤ z)), m') ∧ Fm SD m m') 0 m2 (by omega) (by unfold FU; omega) ⟨fun u hu => by omega, f1.tr f2⟩ ?_ ?_
      · rintro g k m3 hk ⟨a3, f3⟩ ih2
        show ∃ m', lb_Mo_isSteady_35 (nI i) (nI w) (nI (qS a n i)) (nI y) _ g (nI k) m3 = some (_, m') ∧ _
        unfold lb_Mo_isSteady_35
        have lk := qS_lt (a := a) (show k < n by omega)
        have z3 : m3.1 221 (qS a n k) = nI (plS n d a i (qS a n k)).1 ∧ m3.1 222 (qS a n k) = nI (plS n d a i (qS a n k)).2 := by
          rw [f3 _ _ (by unfold SD; omega), f3 _ _ (by unfold SD; omega)]
          exact hZ k hk
        have q3 : m3.1 220 k = nI (qS a n k) := by rw [f3 _ _ (by unfold SD; omega)]; exact hQ k (by omega)
        rw [if_neg (nI_ge hk (by omega)), show ln 220 = 24 from rfl, show ln 221 = 24 from rfl, show ln 222 = 24 from rfl, rd_n (by omega) (by omega), q3, rd_n (by omega) (by omega), z3.1]
        simp only [bd, nI_1, rd_n (show qS a n k < 24 by omega) (show 24 < 2 ^ 31 by decide), z3.2]
        have nx : ∀ m4, Fm SD m m4 → (decide ((plS n d a i (qS a n k)).1 ≤ y) && clB a (qS a n i) w (qS a n k) (plS n d a i (qS a n k)).2 y) = false → ∃ m', g (nI (k + 1)) m4 = some (bI (decide (zmB n d a (plS n d a i) (qS a n i) w ≤ z)), m') ∧ Fm SD m m' := by
          intro m4 f4 hf
          refine ih2 m4 ⟨fun u hu => ?_, f4⟩
          by_cases q : u = k
          · subst q; exact hf
          · exact a3 u (by omega)
        have G3 := G (qS a n k) lk
        by_cases c : (plS n d a i (qS a n k)).1 ≤ y
        · rcases G3 with q | ⟨q1, q2⟩
          · rw [q] at c
            have c : 7 ≤ y := c
            omega
          · have w16' := waysS_le (a := a) (i := qS a n k)
            rw [if_neg (nI_nlt c (by omega))]
            obtain ⟨m4, e4, f4⟩ := doClash_eq (z := y) hV (hM.fD f3) lq lk (show w < 16 by omega) (show (plS n d a i (qS a n k)).2 < 16 by omega) hy
            rw [e4]
            simp only [cI, bI_z]
            cases hc : clB a (qS a n i) w (qS a n k) (plS n d a i (qS a n k)).2 y with
            | false =>
              rw [if_pos rfl]
              exact nx m4 (f3.tr f4) (by rw [hc]; simp)
            | true =>
              rw [if_neg (by decide)]
              refine no m4 (f3.tr f4) ?_
              rw [ft, anyB_t.mpr ⟨k, hk, by simp [c, hc]⟩]
              rfl
        · have b7 : (plS n d a i (qS a n k)).1 ≤ 7 := by
            rcases G3 with q | ⟨q1, q2⟩
            · rw [q]; exact Nat.le_refl 7
            · omega
          rw [if_pos (nI_lt (by omega) (by omega))]
          exact nx m3 f3 (by simp [c])
      · rintro g m3 ⟨a3, f3⟩
        show ∃ m', lb_Mo_isSteady_35 (nI i) (nI w) (nI (qS a n i)) (nI y) _ g (nI i) m3 = some (_, m') ∧ _
        unfold lb_Mo_isSteady_35
        rw [if_pos (nI_le (Nat.le_refl _) (by omega))]
        refine ih m3 ⟨fun u h1 h2 => ?_, by omega, f3⟩
        by_cases q : u = y
        · rw [q, ft, anyB_f.mpr a3]; rfl
        · exact a1 u h1 (by omega)
  · rintro f m1 ⟨a1, zy, f1⟩
    show ∃ m', lb_Mo_isSteady_11 (nI i) (nI w) (nI (qS a n i)) f (nI 7) m1 = some (_, m') ∧ _
    unfold lb_Mo_isSteady_11
    rw [if_pos (show (6 : Int32) < nI 7 by decide), decide_eq_true (key.mpr a1)]
    exact ⟨m1, rfl, f1⟩
def SZ (o j : Nat) : Prop := SD o j ∨ o = 220 ∨ o = 221 ∨ o = 222
set_option maxHeartbeats 1000000 in
theorem fs47 {m2 m3 : Me} {a : Ch} {i x z : Nat} {zm : Nat → Nat} {T : Nat × Nat} {K : Int32 → Int32 → Me → Option Me} {Q : Option Me → Prop} (hW : waysS a x ≤ 16)
    (way : ∀ m3, Fm SD m2 m3 → f_Mo_ways (nI x) m3 = some (nI (waysS a x)))
    (ste : ∀ m3, Fm SD m2 m3 → ∀ w, w < waysS a x → ∃ m', f_Mo_isSteady (nI i) (nI w) (nI z) m3 = some (bI (decide (zm w ≤ z)), m') ∧ Fm SD m3 m')
    (hz : z < 7) (h0 : ∀ v, v < waysS a x → z ≤ zm v) (uq : ∀ u, u < waysS a x → zm u = z → (∀ v, v < u → z < zm v) → T = (z, u)) (f3 : Fm SD m2 m3)
    (hK : ∀ s1 s2 m4, ((s1 = nI 7 ∧ s2 = nI 16 ∧ ∀ v, v < waysS a x → z + 1 ≤ zm v) ∨ (s1 = nI T.1 ∧ s2 = nI T.2 ∧ T.1 < 7)) → Fm SD m2 m4 → Q (K s1 s2 m4)) :
    Q ((fx (lb_Mo_findSteady_47 (nI i) (nI x) (nI z) K) (fun _ _ _ _ => none) FU) (nI 7) (nI 16) 0 m3) := by
  refine up a3M (waysS a x) (fun v s => ((s.1 = nI 7 ∧ s.2.1 = nI 16 ∧ ∀ u, u < v → z < zm u) ∨ (s.1 = nI T.1 ∧ s.2.1 = nI T.2 ∧ T.1 < 7)) ∧ Fm SD m2 s.2.2) Q 0 (nI 7, nI 16, m3) (by omega) (by unfold FU; omega) ⟨Or.inl ⟨rfl, rfl, fun v _ => by omega⟩, f3⟩ ?_ ?_
  · rintro g2 v ⟨s1, s2, m4⟩ hv ⟨hs, f4⟩ ih3
    have f4 : Fm SD m2 m4 := f4
    show Q (lb_Mo_findSteady_47 (nI i) (nI x) (nI z) K g2 s1 s2 (nI v) m4)
    unfold lb_Mo_findSteady_47
    rw [way m4 f4]
    simp only [cP]
    rw [if_neg (nI_ge hv (by omega))]
    rcases hs with ⟨e1, e2, h1⟩ | ⟨e1, e2, h1⟩
    · have e1 : s1 = nI 7 := e1
      have e2 : s2 = nI 16 := e2
      subst e1
      subst e2
      rw [if_pos (show nI 7 = (7 : Int32) from rfl)]
      obtain ⟨m5, e5, f5⟩ := ste m4 f4 v hv
      rw [e5]
      simp only [cI, bd, bI_z, nI_1]
      by_cases c : zm v ≤ z
      · rw [if_neg (by simp [c])]
        have hzv := h0 v hv
        have eT := uq v hv (by omega) h1
        refine ih3 (_, _, m5) ⟨Or.inr ⟨?_, ?_, ?_⟩, f4.tr f5⟩
        · rw [eT]; rfl
        · rw [eT]; rfl
        · rw [eT]; exact hz
      · rw [if_pos (by simp [c])]
        refine ih3 (_, _, m5) ⟨Or.inl ⟨rfl, rfl, fun u hu => ?_⟩, f4.tr f5⟩
        by_cases q : u = v
        · subst q; omega
        · exact h1 u (by omega)
    · have e1 : s1 = nI T.1 := e1
      have e2 : s2 = nI T.2 := e2
      rw [e1, e2, if_neg (show ¬ nI T.1 = (7 : Int32) from nI_ne (b := 7) (by omega) (by decide) (by omega))]
      exact hK _ _ m4 (Or.inr ⟨rfl, rfl, h1⟩) f4
  · rintro g2 ⟨s1, s2, m4⟩ ⟨hs, f4⟩
    have f4 : Fm SD m2 m4 := f4
    show Q (lb_Mo_findSteady_47 (nI i) (nI x) (nI z) K g2 s1 s2 (nI (waysS a x)) m4)
    unfold lb_Mo_findSteady_47
    rw [way m4 f4]
    simp only [cP]
    rw [if_pos (nI_le (Nat.le_refl _) (by omega))]
    rcases hs with ⟨e1, e2, h1⟩ | ⟨e1, e2, h1⟩
    · exact hK s1 s2 m4 (Or.inl ⟨e1, e2, h1⟩) f4
    · exact hK s1 s2 m4 (Or.inr ⟨e1, e2, h1⟩) f4
set_option maxHeartbeats 1000000 in
theorem fs31 {m2 : Me} {a : Ch} {i x : Nat} {zm : Nat → Nat} {T : Nat × Nat} {K : Int32 → Int32 → Me → Option Me} {Q : Option Me → Prop} (hW : waysS a x ≤ 16)
    (way : ∀ m3, Fm SD m2 m3 → f_Mo_ways (nI x) m3 = some (nI (waysS a x)))
    (ste : ∀ m3, Fm SD m2 m3 → ∀ w z, w < waysS a x → z < 7 → ∃ m', f_Mo_isSteady (nI i) (nI w) (nI z) m3 = some (bI (decide (zm w ≤ z)), m') ∧ Fm SD m3 m')
    (hT : stF zm (waysS a x) = T)
    (hK : ∀ m4, Fm SD m2 m4 → Q (K (nI T.1) (nI T.2) m4)) :
    Q ((fx (lb_Mo_findSteady_31 (nI i) (nI x) K) (fun _ _ _ _ => none) FU) (nI 7) (nI 16) 0 m2) := by
  have ch := stF_ch zm (waysS a x)
  rw [hT] at ch
  refine up a3M 7 (fun z s => ((s.1 = nI 7 ∧ s.2.1 = nI 16 ∧ ∀ v, v < waysS a x → z ≤ zm v) ∨ (s.1 = nI T.1 ∧ s.2.1 = nI T.2 ∧ T.1 < 7)) ∧ Fm SD m2 s.2.2) Q 0 (nI 7, nI 16, m2) (by omega) (by unfold FU; omega) ⟨Or.inl ⟨rfl, rfl, fun v _ => Nat.zero_le _⟩, Fm.rf⟩ ?_ ?_
  · rintro g z ⟨s1, s2, m3⟩ hz ⟨hs, f3⟩ ih2
    have f3 : Fm SD m2 m3 := f3
    show Q (lb_Mo_findSteady_31 (nI i) (nI x) K g s1 s2 (nI z) m3)
    unfold lb_Mo_findSteady_31
    rw [if_neg (show ¬ (6 : Int32) < nI z from nI_nlt (a := 6) (by omega) (by decide))]
    rcases hs with ⟨e1, e2, h0⟩ | ⟨e1, e2, h0⟩
    · have e1 : s1 = nI 7 := e1
      have e2 : s2 = nI 16 := e2
      subst e1
      subst e2
      rw [if_pos (show nI 7 = (7 : Int32) from rfl)]
      refine fs47 (T := T) (Q := Q) (K := fun v15 v16 m17 => bd (nI z + 1) (fun v18 => g v15 v16 v18 m17)) hW way (fun m3 f3 w hw => ste m3 f3 w z hw hz) hz h0 (fun u hu h1 h2 => by rw [← hT]; exact stF_uq hz hu h1 h0 h2) f3 ?_
      intro s1 s2 m4 hs f4
      show Q (g s1 s2 (nI z + 1) m4)
      rw [nI_1]
      exact ih2 (s1, s2, m4) ⟨hs, f4⟩
    · have e1 : s1 = nI T.1 := e1
      have e2 : s2 = nI T.2 := e2
      rw [e1, e2, if_neg (show ¬ nI T.1 = (7 : Int32) from nI_ne (b := 7) (by omega) (by decide) (by omega))]
      exact hK m3 f3
  · rintro g ⟨s1, s2, m3⟩ ⟨hs, f3⟩
    have f3 : Fm SD m2 m3 := f3
    show Q (lb_Mo_findSteady_31 (nI i) (nI x) K g s1 s2 (nI 7) m3)
    unfold lb_Mo_findSteady_31
    rw [if_pos (show (6 : Int32) < nI 7 by decide)]
    rcases hs with ⟨e1, e2, h0⟩ | ⟨e1, e2, h0⟩
    · have eT : T = (7, 16) := by
        rcases ch with ⟨g1, -⟩ | ⟨g1, g2, g3, -⟩
        · exact g1
        · have := h0 T.2 g2; omega
      have e1 : s1 = nI T.1 := by rw [eT]; exact e1
      have e2 : s2 = nI T.2 := by rw [eT]; exact e2
      rw [e1, e2]
      exact hK m3 f3
    · have e1 : s1 = nI T.1 := e1
      have e2 : s2 = nI T.2 := e2
      rw [e1, e2]
      exact hK m3 f3
set_option maxHeartbeats 1000000 in
theorem findSteady_ok {m : Me} {n d : Nat} {a : Ch} (hV : VV n d a) (hM : MM m n d a) :
    ∃ m', f_Mo_findSteady m = some m' ∧ (∀ o, o < n → m'.1 221 o = nI (plS n d a n o).1 ∧ m'.1 222 o = nI (plS n d a n o).2) ∧ Fm SZ m m' := by
  have h24 := hV.1
  have M' : ∀ m', Fm SZ m m' → MM m' n d a := fun m' f => hM.fr f (by unfold SZ SD; omega) (by unfold SZ SD; omega) (fun o j _ _ => by unfold SZ SD; omega)
  obtain ⟨m1, e1, q1, f1⟩ := order_ok hV hM
  unfold f_Mo_findSteady
  rw [e1]
  simp only [cP]
  refine up aM n (fun i m' => MZ m' n a (plS n d a i) i ∧ MQo m' n a ∧ Fm SZ m m') (fun r => ∃ m', r = some m' ∧ (∀ o, o < n → m'.1 221 o = nI (plS n d a n o).1 ∧ m'.1 222 o = nI (plS n d a n o).2) ∧ Fm SZ m m') 0 m1 (by omega) (by unfold FU; omega) ⟨fun k hk => by omega, q1, f1.mo (fun o j q => Or.inr (Or.inl q))⟩ ?_ ?_
  · rintro f i m2 hi ⟨Z2, Q2, f2⟩ ih
    show ∃ m', lb_Mo_findSteady_6 f (nI i) m2 = some m' ∧ _
    unfold lb_Mo_findSteady_6
    have lq := qS_lt (a := a) hi
    have w16 := waysS_le (a := a) (i := qS a n i)
    rw [(M' m2 f2).1, if_neg (nI_ge hi (by omega)), show ln 220 = 24 from rfl, rd_n (by omega) (by omega), Q2 i hi]
    have ep : ∀ o, plS n d a (i + 1) o = if o = qS a n i then stF (zmB n d a (plS n d a i) (qS a n i)) (waysS a (qS a n i)) else plS n d a i o := fun o => rfl
    rw [bdE]
    refine fs31 (T := stF (zmB n d a (plS n d a i) (qS a n i)) (waysS a (qS a n i))) (zm := zmB n d a (plS n d a i) (qS a n i)) (Q := fun r => ∃ m', r = some m' ∧ (∀ o, o < n → m'.1 221 o = nI (plS n d a n o).1 ∧ m'.1 222 o = nI (plS n d a n o).2) ∧ Fm SZ m m') (K := fun v5 v6 m7 => wi m7 221 (ln 221) (nI (qS a n i)) v5 (fun m8 => wi m8 222 (ln 222) (nI (qS a n i)) v6 (fun m9 => bd (nI i + 1) (fun v10 => (f v10 m9))))) w16
      (fun m3 f3 => moWays_eq hV (M' m3 (f2.tr (f3.mo (fun o j q => Or.inl q)))) lq)
      (fun m3 f3 w z hw hz => isSteady_eq (m := m3) (w := w) (z := z) hV (M' m3 (f2.tr (f3.mo (fun o j q => Or.inl q)))) (fun j hj => by rw [f3 _ _ (by unfold SD; omega)]; exact Q2 j hj) (fun k hk => by rw [f3 _ _ (by unfold SD; omega), f3 _ _ (by unfold SD; omega)]; exact Z2 k hk) hi hw hz)
      rfl ?_
    intro m3 f3
    show ∃ m', (wi m3 221 (ln 221) (nI (qS a n i)) (nI (stF (zmB n d a (plS n d a i) (qS a n i)) (waysS a (qS a n i))).1) (fun m8 => wi m8 222 (ln 222) (nI (qS a n i)) (nI (stF (zmB n d a (plS n d a i) (qS a n i)) (waysS a (qS a n i))).2) (fun m9 => f (nI i + 1) m9))) = some m' ∧ _
    rw [show ln 221 = 24 from rfl, show ln 222 = 24 from rfl, wi_n (by omega) (by omega), wi_n (by omega) (by omega), nI_1]
    refine ih _ ⟨fun k hk => ?_, fun j hj => ?_, ((f2.tr (f3.mo (fun o j q => Or.inl q))).wr' (by unfold SZ; omega)).wr' (by unfold SZ; omega)⟩
    · by_cases q : k = i
      · subst q
        rw [ep, if_pos rfl, si1, if_neg (by omega), si_s, si_s]
        exact ⟨rfl, rfl⟩
      · have hne : qS a n k ≠ qS a n i := fun w => by have := qS_inj (show k < n by omega) hi w; omega
        rw [ep, if_neg hne, si1, if_neg (by omega), si1, if_neg (by omega), si1, if_neg (by omega), si1, if_neg (by omega), f3 _ _ (by unfold SD; omega), f3 _ _ (by unfold SD; omega)]
        exact Z2 k (by omega)
    · rw [si1, if_neg (by omega), si1, if_neg (by omega), f3 _ _ (by unfold SD; omega)]
      exact Q2 j hj
  · rintro f m2 ⟨Z2, Q2, f2⟩
    show ∃ m', lb_Mo_findSteady_6 f (nI n) m2 = some m' ∧ _
    unfold lb_Mo_findSteady_6
    rw [(M' m2 f2).1, if_pos (nI_le (Nat.le_refl _) (by omega))]
    refine ⟨m2, rfl, fun o ho => ?_, f2⟩
    obtain ⟨j, hj, e⟩ := qS_sur (a := a) ho
    rw [← e]
    exact Z2 j hj
