/-! PURE PART: the plan of zooms -/
noncomputable def fitB (n d : Nat) (a : Ch) (F : Nat → Nat × Nat) (x w z : Nat) : Bool := opB n d a x w z && !(anyB (fun o => decide ((F o).1 ≤ z) && clB a x w o (F o).2 z) n)
def zmF (ft : Nat → Bool) : Nat → Nat
  | 0 => 0
  | z + 1 => if ft z = true then zmF ft z else z + 1
def stF (zm : Nat → Nat) : Nat → Nat × Nat
  | 0 => (7, 16)
  | v + 1 => if zm v < (stF zm v).1 then (zm v, v) else stF zm v
noncomputable def zmB (n d : Nat) (a : Ch) (F : Nat → Nat × Nat) (x w : Nat) : Nat := zmF (fun z => fitB n d a F x w z) 7
noncomputable def plS (n d : Nat) (a : Ch) : Nat → Nat → Nat × Nat
  | 0 => fun _ => (7, 16)
  | i + 1 => fun o => if o = qS a n i then stF (zmB n d a (plS n d a i) (qS a n i)) (waysS a (qS a n i)) else plS n d a i o
theorem stF_ch (zm : Nat → Nat) (W : Nat) : ((stF zm W) = (7, 16) ∧ ∀ v, v < W → 7 ≤ zm v) ∨ ((stF zm W).1 < 7 ∧ (stF zm W).2 < W ∧ zm (stF zm W).2 = (stF zm W).1 ∧ (∀ v, v < W → (stF zm W).1 ≤ zm v) ∧ ∀ v, v < (stF zm W).2 → (stF zm W).1 < zm v) := by
  induction W with
  | zero => exact Or.inl ⟨rfl, fun v hv => by omega⟩
  | succ W ih =>
    have e : stF zm (W + 1) = if zm W < (stF zm W).1 then (zm W, W) else stF zm W := rfl
    rw [e]
    by_cases c : zm W < (stF zm W).1
    · rw [if_pos c]
      right
      rcases ih with ⟨h1, h2⟩ | ⟨h1, h2, h3, h4, h5⟩
      · rw [h1] at c
        refine ⟨c, Nat.lt_succ_self _, rfl, fun v hv => ?_, fun v hv => ?_⟩
        · by_cases q : v = W
          · subst q; exact Nat.le_refl _
          · have := h2 v (by omega); show zm W ≤ zm v; have c : zm W < 7 := c; omega
        · have hv : v < W := hv
          have := h2 v hv; show zm W < zm v; have c : zm W < 7 := c; omega
      · refine ⟨by show zm W < 7; omega, Nat.lt_succ_self _, rfl, fun v hv => ?_, fun v hv => ?_⟩
        · by_cases q : v = W
          · subst q; exact Nat.le_refl _
          · have := h4 v (by omega); show zm W ≤ zm v; omega
        · have hv : v < W := hv
          have := h4 v hv; show zm W < zm v; omega
    · rw [if_neg c]
      rcases ih with ⟨h1, h2⟩ | ⟨h1, h2, h3, h4, h5⟩
      · left
        refine ⟨h1, fun v hv => ?_⟩
        by_cases q : v = W
        · subst q; rw [h1] at c; exact Nat.le_of_not_lt c
        · exact h2 v (by omega)
      · right
        refine ⟨h1, by omega, h3, fun v hv => ?_, h5⟩
        by_cases q : v = W
        · subst q; omega
        · exact h4 v (by omega)
theorem stF_uq {zm : Nat → Nat} {W l u : Nat} (h1 : l < 7) (h2 : u < W) (h3 : zm u = l) (h4 : ∀ v, v < W → l ≤ zm v) (h5 : ∀ v, v < u → l < zm v) : stF zm W = (l, u) := by
  rcases stF_ch zm W with ⟨g1, g2⟩ | ⟨g1, g2, g3, g4, g5⟩
  · have := g2 u h2; omega
  · have e1 : (stF zm W).1 = l := by
      have := h4 _ g2
      have := g4 u h2
      omega
    have e2 : (stF zm W).2 = u := by
      rcases Nat.lt_trichotomy (stF zm W).2 u with q | q | q
      · have := h5 _ q; omega
      · exact q
      · have := g5 _ q; omega
    rw [← e1, ← e2]
theorem stF_0 {zm : Nat → Nat} {v W : Nat} (h : (stF zm v).1 = 0) (hv : v ≤ W) : stF zm W = stF zm v := by
  induction W with
  | zero => rw [show v = 0 by omega]
  | succ W ih =>
    by_cases q : v = W + 1
    · rw [q]
    · have e : stF zm (W + 1) = if zm W < (stF zm W).1 then (zm W, W) else stF zm W := rfl
      rw [e, ih (by omega), if_neg (by omega)]
theorem zmF_le (ft : Nat → Bool) (t : Nat) : zmF ft t ≤ t := by
  induction t with
  | zero => exact Nat.le_refl _
  | succ t ih =>
    show (if ft t = true then zmF ft t else t + 1) ≤ t + 1
    split <;> omega
theorem zm_iff {ft : Nat → Bool} {t z : Nat} (hz : z ≤ t) : zmF ft t ≤ z ↔ ∀ y, z ≤ y → y < t → ft y = true := by
  induction t with
  | zero => exact ⟨fun _ y h1 h2 => by omega, fun _ => Nat.zero_le _⟩
  | succ t ih =>
    show (if ft t = true then zmF ft t else t + 1) ≤ z ↔ _
    by_cases q : z = t + 1
    · constructor
      · intro _ y h1 h2; omega
      · intro _
        have := zmF_le ft t
        split <;> omega
    · by_cases c : ft t = true
      · rw [if_pos c, ih (by omega)]
        constructor
        · intro h y h1 h2
          by_cases q2 : y = t
          · subst q2; exact c
          · exact h y h1 (by omega)
        · exact fun h y h1 h2 => h y h1 (by omega)
      · rw [if_neg c]
        constructor
        · intro h; omega
        · intro h; exact absurd (h t (by omega) (by omega)) c
def FG (n : Nat) (a : Ch) (F : Nat → Nat × Nat) : Prop := ∀ o, o < n → F o = (7, 16) ∨ ((F o).1 < 7 ∧ (F o).2 < waysS a o)
theorem pl_no {n d : Nat} {a : Ch} {i o : Nat} (h : ∀ j, j < i → qS a n j ≠ o) : plS n d a i o = (7, 16) := by
  induction i with
  | zero => rfl
  | succ i ih =>
    show (if o = qS a n i then _ else plS n d a i o) = _
    rw [if_neg (fun q => h i (by omega) q.symm)]
    exact ih (fun j hj => h j (by omega))
theorem pl_fg (n d : Nat) (a : Ch) (i : Nat) : FG n a (plS n d a i) := by
  induction i with
  | zero => exact fun o _ => Or.inl rfl
  | succ i ih =>
    intro o ho
    have e : plS n d a (i + 1) o = if o = qS a n i then stF (zmB n d a (plS n d a i) (qS a n i)) (waysS a (qS a n i)) else plS n d a i o := rfl
    rw [e]
    by_cases q : o = qS a n i
    · rw [if_pos q, ← q]
      rcases stF_ch (zmB n d a (plS n d a i) o) (waysS a o) with ⟨g1, -⟩ | ⟨g1, g2, -⟩
      · exact Or.inl g1
      · exact Or.inr ⟨g1, g2⟩
    · rw [if_neg q]; exact ih o ho
/-! the class -/
def zI (z : Nat) : Int32 := if z = 7 then -1 else nI z
def PLi (m : Me) (n : Nat) (F : Nat → Nat × Nat) : Prop := ∀ o, o < n → m.1 106 o = zI (F o).1 ∧ m.1 107 o = hI (F o).2
def SP2 (o : Nat) (_ : Nat) : Prop := o = 1386 ∨ o = 1387
theorem nI_n1 {k : Nat} (h : k < 2 ^ 31) : ¬ nI k = (-1 : Int32) := by
  intro q
  have h2 := nI_pos h
  rw [q] at h2
  exact absurd (by decide) h2
theorem hI_n1 {h : Nat} (hh : h ≤ 16) : (hI h = (-1 : Int32)) = (h = 16) := by
  unfold hI
  by_cases q : h = 16
  · rw [if_pos q]; simp [q]
  · rw [if_neg q]
    exact propext ⟨fun w => absurd w (nI_n1 (by omega)), fun w => absurd w q⟩
theorem hI_lt {h : Nat} (hh : h < 16) : hI h = nI h := by unfold hI; rw [if_neg (by omega)]
theorem PLi.fr {S : Nat → Nat → Prop} {m m' : Me} {n : Nat} {F : Nat → Nat × Nat} (h : PLi m n F) (f : Fm S m m') (g : ∀ j, ¬ S 106 j ∧ ¬ S 107 j) : PLi m' n F := fun o ho => by
  rw [f _ _ (g o).1, f _ _ (g o).2]; exact h o ho
theorem isThere_eq {m : Me} {n : Nat} {a : Ch} {F : Nat → Nat × Nat} {o z : Nat} (hn : n ≤ 24) (hG : FG n a F) (hP : PLi m n F) (ho : o < n) (hz : z < 7) : f_Plan_isThere (nI o) (nI z) m = some (bI (decide ((F o).1 ≤ z))) := by
  unfold f_Plan_isThere
  rw [show ln 106 = 24 from rfl, rd_n (by omega) (by omega), rd_n (by omega) (by omega), (hP o ho).1]
  rcases hG o ho with q | ⟨q, -⟩
  · rw [q]
    show (if zI 7 = -1 then some 0 else _) = _
    rw [if_pos (show zI 7 = -1 from rfl), decide_eq_false (show ¬ (7, 16).1 ≤ z from by show ¬ 7 ≤ z; omega)]; rfl
  · have e : zI (F o).1 = nI (F o).1 := by unfold zI; rw [if_neg (by omega)]
    rw [e, if_neg (nI_n1 (by omega))]
    by_cases c : (F o).1 ≤ z
    · rw [if_neg (nI_nlt c (by omega)), decide_eq_true c]; rfl
    · rw [if_pos (nI_lt (by omega) (by omega)), decide_eq_false c]; rfl
set_option maxHeartbeats 1000000 in
theorem fits_eq {m : Me} {n d : Nat} {a : Ch} {F : Nat → Nat × Nat} {x w z : Nat} (hV : VV n d a) (hC : CC m 10 n d a) (hG : FG n a F) (hP : PLi m n F) (hx : x < n) (hw : w < waysS a x) (hz : z < 7) :
    ∃ m', f_Plan_fits (nI x) (nI w) (nI z) m = some (bI (fitB n d a F x w z), m') ∧ Fm SP2 m m' := by
  have h24 := hV.1
  have w16 := waysS_le (a := a) (i := x)
  have hN := (hV.2.2.1 x hx).1
  have C' : ∀ m', Fm SP2 m m' → CC m' 10 n d a := fun m' f => hC.fr f (fun o j _ _ => by unfold SP2; omega)
  obtain ⟨m1, e1, B1, o1, -⟩ := lay_ok (m := m) (o := 1386) (a := a) (i := x) (w := w) (z := z) (by omega) (by omega) (by omega) hz hN (hC.nm hx) (kind_ne hw)
  have f1 : Fm SP2 m m1 := fun o j q => by rw [o1 o (by unfold SP2 at q; omega)]
  unfold f_Plan_fits
  rw [e1]
  simp only [cP]
  rw [isOpen_eq hV (C' m1 f1) hx hz B1]
  simp only [bI_z]
  unfold fitB
  cases ho : opB n d a x w z with
  | false =>
    rw [if_pos rfl]
    exact ⟨m1, rfl, f1⟩
  | true =>
    rw [if_neg (by decide), Bool.true_and]
    refine up aM n (fun o m' => Fm SP2 m m' ∧ BoxAt m' 1386 a x w z ∧ ∀ u, u < o → (decide ((F u).1 ≤ z) && clB a x w u (F u).2 z) = false) (fun r => ∃ m', r = some (bI (!(anyB (fun o => decide ((F o).1 ≤ z) && clB a x w o (F o).2 z) n)), m') ∧ Fm SP2 m m') 0 m1 (by omega) (by unfold FU; omega) ⟨f1, B1, fun u hu => by omega⟩ ?_ ?_
    · rintro f o m2 hon ⟨f2, B2, a2⟩ ih
      show ∃ m', lb_Plan_fits_30 (nI z) f (nI o) m2 = some (_, m') ∧ _
      unfold lb_Plan_fits_30
      have C2 := C' m2 f2
      have P2 := hP.fr f2 (fun j => by unfold SP2; omega)
      rw [C2.1, if_neg (nI_ge hon (by omega)), isThere_eq h24 hG P2 hon hz]
      simp only [cP, bd, bI_z, nI_1]
      have nx : ∀ m3, Fm SP2 m m3 → BoxAt m3 1386 a x w z → (decide ((F o).1 ≤ z) && clB a x w o (F o).2 z) = false → ∃ m', f (nI (o + 1)) m3 = some (bI (!(anyB (fun o => decide ((F o).1 ≤ z) && clB a x w o (F o).2 z) n)), m') ∧ Fm SP2 m m' := by
        intro m3 f3 B3 hf
        refine ih m3 ⟨f3, B3, fun u hu => ?_⟩
        by_cases q : u = o
        · subst q; exact hf
        · exact a2 u (by omega)
      by_cases c : (F o).1 ≤ z
      · rw [if_neg (by simp [c])]
        rcases hG o hon with q | ⟨q1, q2⟩
        · rw [q] at c
          have c : 7 ≤ z := c
          omega
        · have w16' := waysS_le (a := a) (i := o)
          rw [show ln 107 = 24 from rfl, rd_n (by omega) (by omega), (P2 o hon).2, hI_lt (by omega)]
          obtain ⟨m3, e3, B3, o3, -⟩ := lay_ok (m := m2) (o := 1387) (a := a) (i := o) (w := (F o).2) (z := z) (by omega) (by omega) (by omega) hz (hV.2.2.1 o hon).1 (C2.nm hon) (kind_ne q2)
          have f3 : Fm SP2 m2 m3 := fun o j q => by rw [o3 o (by unfold SP2 at q; omega)]
          have B3' : BoxAt m3 1386 a x w z := B2.same (fun j => by rw [o3 1386 (by omega)])
          rw [e3]
          simp only []
          rw [hits_eq hz hN (hV.2.2.1 o hon).1 B3' B3]
          simp only [bI_z]
          cases hc : clB a x w o (F o).2 z with
          | false =>
            rw [if_pos rfl]
            exact nx m3 (f2.tr f3) B3' (by rw [hc]; simp)
          | true =>
            rw [if_neg (by decide)]
            refine ⟨m3, ?_, f2.tr f3⟩
            rw [anyB_t.mpr ⟨o, hon, by simp [c, hc]⟩]
            rfl
      · rw [if_pos (by simp [c])]
        exact nx m2 f2 B2 (by simp [c])
    · rintro f m2 ⟨f2, B2, a2⟩
      show ∃ m', lb_Plan_fits_30 (nI z) f (nI n) m2 = some (_, m') ∧ _
      unfold lb_Plan_fits_30
      rw [(C' m2 f2).1, if_pos (nI_le (Nat.le_refl _) (by omega)), anyB_f.mpr a2]
      exact ⟨m2, rfl, f2⟩
abbrev a3M {ρ : Type} (f : Int32 → Int32 → Int32 → Me → Option ρ) (k : Nat) (s : Int32 × Int32 × Me) : Option ρ := f s.1 s.2.1 (nI k) s.2.2
def SPl (o j : Nat) : Prop := (o = 105 ∧ j = 5) ∨ o = 106 ∨ o = 107 ∨ o = 108 ∨ o = 1386 ∨ o = 1387
set_option maxHeartbeats 1000000 in
theorem settle_ok {m : Me} {n d : Nat} {a : Ch} {F : Nat → Nat × Nat} {x : Nat} (hV : VV n d a) (hC : CC m 10 n d a) (hG : FG n a F) (hP : PLi m n F) (hx : x < n) (hF : F x = (7, 16)) :
    ∃ m', f_Plan_settle (nI x) m = some m' ∧ PLi m' n (fun o => if o = x then stF (zmB n d a F x) (waysS a x) else F o) ∧ Fm (fun o _ => o = 106 ∨ o = 107 ∨ o = 1386 ∨ o = 1387) m m' := by
  have h24 := hV.1
  have w16 := waysS_le (a := a) (i := x)
  have C' : ∀ m', Fm SP2 m m' → CC m' 10 n d a := fun m' f => hC.fr f (fun o j _ _ => by unfold SP2; omega)
  have P' : ∀ m', Fm SP2 m m' → PLi m' n F := fun m' f => hP.fr f (fun j => by unfold SP2; omega)
  unfold f_Plan_settle
  simp only [bd]
  have fin : ∀ m3, Fm SP2 m m3 → ∃ m', (if hI (stF (zmB n d a F x) (waysS a x)).2 = (-1 : Int32) then some m3 else wi m3 106 (ln 106) (nI x) (nI (stF (zmB n d a F x) (waysS a x)).1) (fun m4 => wi m4 107 (ln 107) (nI x) (hI (stF (zmB n d a F x) (waysS a x)).2) (fun m5 => some m5))) = some m' ∧ PLi m' n (fun o => if o = x then stF (zmB n d a F x) (waysS a x) else F o) ∧ Fm (fun o _ => o = 106 ∨ o = 107 ∨ o = 1386 ∨ o = 1387) m m' := by
    intro m3 f3
    have f3' : Fm (fun o _ => o = 106 ∨ o = 107 ∨ o = 1386 ∨ o = 1387) m m3 := f3.mo (fun o j q => by unfold SP2 at q; omega)
    rcases stF_ch (zmB n d a F x) (waysS a x) with ⟨g1, -⟩ | ⟨g1, g2, -⟩
    · rw [g1]
      rw [if_pos (show hI (7, 16).2 = -1 from rfl)]
      refine ⟨m3, rfl, fun o ho => ?_, f3'⟩
      show _ = zI (if o = x then (7, 16) else F o).1 ∧ _ = hI (if o = x then (7, 16) else F o).2
      by_cases q : o = x
      · rw [if_pos q, ← hF, ← q]; exact P' m3 f3 o ho
      · rw [if_neg q]; exact P' m3 f3 o ho
    · generalize stF (zmB n d a F x) (waysS a x) = T at *
      rw [if_neg (by rw [hI_n1 (by omega)]; omega), show ln 106 = 24 from rfl, show ln 107 = 24 from rfl, wi_n (by omega) (by omega), wi_n (by omega) (by omega)]
      refine ⟨_, rfl, fun o ho => ?_, (f3'.wr' (by omega)).wr' (by omega)⟩
      show _ = zI (if o = x then T else F o).1 ∧ _ = hI (if o = x then T else F o).2
      by_cases q : o = x
      · subst q
        rw [if_pos rfl, si1, if_neg (by omega), si_s, si_s]
        refine ⟨?_, rfl⟩
        unfold zI
        rw [if_neg (by omega)]
      · rw [if_neg q, si1, if_neg (by omega), si1, if_neg (by omega), si1, if_neg (by omega), si1, if_neg (by omega)]
        exact P' m3 f3 o ho
  have zl : ∀ v, zmB n d a F x v ≤ 7 := fun v => zmF_le _ 7
  refine up a3M (waysS a x) (fun v s => s.1 = nI (stF (zmB n d a F x) v).1 ∧ s.2.1 = hI (stF (zmB n d a F x) v).2 ∧ Fm SP2 m s.2.2) (fun r => ∃ m', r = some m' ∧ PLi m' n (fun o => if o = x then stF (zmB n d a F x) (waysS a x) else F o) ∧ Fm (fun o _ => o = 106 ∨ o = 107 ∨ o = 1386 ∨ o = 1387) m m') 0 (7, -1, m) (by omega) (by unfold FU; omega) ⟨rfl, rfl, Fm.rf⟩ ?_ ?_
  · rintro f v ⟨s1, s2, m1⟩ hv ⟨e1, e2, f1⟩ ih
    have e1 : s1 = nI (stF (zmB n d a F x) v).1 := e1
    have e2 : s2 = hI (stF (zmB n d a F x) v).2 := e2
    have f1 : Fm SP2 m m1 := f1
    have bl : (stF (zmB n d a F x) v).1 ≤ 7 := by
      rcases stF_ch (zmB n d a F x) v with ⟨g1, -⟩ | ⟨g1, -⟩
      · rw [g1]; exact Nat.le_refl 7
      · omega
    show ∃ m', lb_Plan_settle_9 (nI x) _ f s1 s2 (nI v) m1 = some m' ∧ _
    unfold lb_Plan_settle_9
    rw [ways_eq hV (C' m1 f1) hx]
    simp only [cP, bd, nI_1]
    rw [if_neg (nI_ge hv (by omega)), e1]
    by_cases c0 : (stF (zmB n d a F x) v).1 = 0
    · rw [if_pos (show nI (stF (zmB n d a F x) v).1 ≤ 0 by rw [c0]; decide), e2, ← stF_0 c0 (show v ≤ waysS a x by omega)]
      exact fin m1 f1
    · rw [if_neg (nI_nle (by omega) (by omega))]
      have done : ∀ m2, Fm SP2 m m2 → ∃ m', (if nI (stF (zmB n d a F x) v).1 ≤ nI (zmB n d a F x v) then f (nI (stF (zmB n d a F x) v).1) s2 (nI (v + 1)) m2 else f (nI (zmB n d a F x v)) (nI v) (nI (v + 1)) m2) = some m' ∧ PLi m' n (fun o => if o = x then stF (zmB n d a F x) (waysS a x) else F o) ∧ Fm (fun o _ => o = 106 ∨ o = 107 ∨ o = 1386 ∨ o = 1387) m m' := by
        intro m2 f2
        have es : stF (zmB n d a F x) (v + 1) = if zmB n d a F x v < (stF (zmB n d a F x) v).1 then (zmB n d a F x v, v) else stF (zmB n d a F x) v := rfl
        have := zl v
        by_cases c : zmB n d a F x v < (stF (zmB n d a F x) v).1
        · rw [if_pos c] at es
          rw [if_neg (nI_ge c (by omega))]
          refine ih (_, _, m2) ⟨by rw [es]; rfl, ?_, f2⟩
          rw [es]
          exact (hI_lt (by omega)).symm
        · rw [if_neg c] at es
          rw [if_pos (nI_le (by omega) (by omega))]
          exact ih (_, _, m2) ⟨by rw [es]; rfl, by rw [es]; exact e2, f2⟩
      refine dn aM (fun t m' => zmB n d a F x v = zmF (fun z => fitB n d a F x v z) t ∧ t ≤ 7 ∧ Fm SP2 m m') (fun r => ∃ m', r = some m' ∧ PLi m' n (fun o => if o = x then stF (zmB n d a F x) (waysS a x) else F o) ∧ Fm (fun o _ => o = 106 ∨ o = 107 ∨ o = 1386 ∨ o = 1387) m m') 7 m1 (by unfold FU; omega) ⟨rfl, Nat.le_refl _, f1⟩ ?_ ?_
      · rintro g t m2 ⟨a2, b2, f2⟩ ih2
        show ∃ m', lb_Plan_settle_27 (nI x) (nI v) _ g (nI (t + 1)) m2 = some m' ∧ _
        unfold lb_Plan_settle_27
        obtain ⟨m3, e3, f3⟩ := fits_eq (z := t) hV (C' m2 f2) hG (P' m2 f2) hx hv (by omega)
        rw [if_neg (nI_nle (by omega) (by omega)), nI_pred, e3]
        simp only [cI, bd, bI_z]
        have ez : zmF (fun z => fitB n d a F x v z) (t + 1) = if fitB n d a F x v t = true then zmF (fun z => fitB n d a F x v z) t else t + 1 := rfl
        cases hf : fitB n d a F x v t with
        | false =>
          rw [hf, if_neg (by decide)] at ez
          rw [if_pos rfl]
          have := done m3 (f2.tr f3)
          rw [a2, ez] at this
          exact this
        | true =>
          rw [hf, if_pos rfl] at ez
          rw [if_neg (by decide), show nI (t + 1) + Int32.ofInt (-1) = nI t from pk_m1 t]
          exact ih2 m3 ⟨a2.trans ez, by omega, f2.tr f3⟩
      · rintro g m2 ⟨a2, b2, f2⟩
        show ∃ m', lb_Plan_settle_27 (nI x) (nI v) _ g (nI 0) m2 = some m' ∧ _
        unfold lb_Plan_settle_27
        rw [if_pos (show nI 0 ≤ 0 by decide)]
        have := done m2 f2
        rw [a2] at this
        exact this
  · rintro f ⟨s1, s2, m1⟩ ⟨e1, e2, f1⟩
    have e1 : s1 = nI (stF (zmB n d a F x) (waysS a x)).1 := e1
    have e2 : s2 = hI (stF (zmB n d a F x) (waysS a x)).2 := e2
    have f1 : Fm SP2 m m1 := f1
    show ∃ m', lb_Plan_settle_9 (nI x) _ f s1 s2 (nI (waysS a x)) m1 = some m' ∧ _
    unfold lb_Plan_settle_9
    rw [ways_eq hV (C' m1 f1) hx]
    simp only [cP]
    rw [if_pos (nI_le (Nat.le_refl _) (by omega)), e1, e2]
    exact fin m1 f1
theorem fill_ok {m : Me} {o L : Nat} {v : Int32} (hL : ln o = L) (hL2 : L ≤ 24) : ∃ m', f_Arrays_fill o v m = some m' ∧ (∀ j, j < L → m'.1 o j = v) ∧ Fm (fun x _ => x = o) m m' := by
  unfold f_Arrays_fill
  simp only [bd]
  rw [hL, show Int32.ofNat L = nI L from rfl]
  refine up aM L (fun k m' => (∀ j, j < k → m'.1 o j = v) ∧ Fm (fun x _ => x = o) m m') (fun r => ∃ m', r = some m' ∧ (∀ j, j < L → m'.1 o j = v) ∧ Fm (fun x _ => x = o) m m') 0 m (by omega) (by unfold FU; omega) ⟨fun j hj => by omega, Fm.rf⟩ ?_ ?_
  · rintro f k m1 hk ⟨a1, f1⟩ ih
    show ∃ m', lb_Arrays_fill_5 o v (nI L) f (nI k) m1 = some m' ∧ _
    unfold lb_Arrays_fill_5
    rw [if_neg (nI_ge hk (by omega)), hL, wi_n (by omega) (by omega)]
    simp only [bd, nI_1]
    refine ih _ ⟨fun j hj => ?_, f1.wr' rfl⟩
    rw [si1]
    by_cases q : j = k
    · rw [if_pos ⟨rfl, q⟩]
    · rw [if_neg (by omega)]; exact a1 j (by omega)
  · rintro f m1 ⟨a1, f1⟩
    show ∃ m', lb_Arrays_fill_5 o v (nI L) f (nI L) m1 = some m' ∧ _
    unfold lb_Arrays_fill_5
    rw [if_pos (nI_le (Nat.le_refl _) (by omega))]
    exact ⟨m1, rfl, a1, f1⟩
theorem plan_ok {m : Me} {n d : Nat} {a : Ch} (hV : VV n d a) (hC : CC m 10 n d a) (h0 : m.1 105 5 = 0) :
    ∃ m', f_Plan_refresh m = some m' ∧ PLi m' n (plS n d a n) ∧ m'.1 105 5 = 1 ∧ Fm SPl m m' := by
  have h24 := hV.1
  have C' : ∀ m', Fm SPl m m' → CC m' 10 n d a := fun m' f => hC.fr f (fun o j _ _ => by unfold SPl; omega)
  unfold f_Plan_refresh
  rw [if_pos h0]
  unfold pz
  rw [if_pos (Or.inr rfl)]
  obtain ⟨m2, e2, a2, f2⟩ := fill_ok (m := si m 105 5 1) (o := 106) (L := 24) (v := -1) rfl (by omega)
  obtain ⟨m3, e3, a3, f3⟩ := fill_ok (m := m2) (o := 107) (L := 24) (v := -1) rfl (by omega)
  have w3 : Fm SPl m m3 := ((Fm.wr (by unfold SPl; omega)).tr (f2.mo (fun o j q => by unfold SPl; omega))).tr (f3.mo (fun o j q => by unfold SPl; omega))
  obtain ⟨m4, e4, a4, f4⟩ := queue_ok (o := 108) (Or.inl rfl) hV (C' m3 w3)
  have w4 : Fm SPl m m4 := w3.tr (f4.mo (fun o j q => by unfold SPl; omega))
  simp only []
  rw [e2]
  simp only [cP]
  rw [e3]
  simp only []
  rw [e4]
  simp only []
  have z4 : m4.1 105 5 = 1 := by
    rw [f4 _ _ (by omega), f3 _ _ (by omega), f2 _ _ (by omega), si_s]
  refine up aM n (fun i m' => PLi m' n (plS n d a i) ∧ (∀ j, j < n → m'.1 108 j = nI (qS a n j)) ∧ m'.1 105 5 = 1 ∧ Fm SPl m m') (fun r => ∃ m', r = some m' ∧ PLi m' n (plS n d a n) ∧ m'.1 105 5 = 1 ∧ Fm SPl m m') 0 m4 (by omega) (by unfold FU; omega) ⟨fun o ho => ?_, a4, z4, w4⟩ ?_ ?_
  · rw [f4 _ _ (by omega), f4 _ _ (by omega), f3 _ _ (by omega), a2 o (by show o < 24; omega), a3 o (by show o < 24; omega)]
    exact ⟨rfl, rfl⟩
  · rintro f i m5 hi ⟨P5, q5, z5, w5⟩ ih
    show ∃ m', lb_Plan_refresh_39 f (nI i) m5 = some m' ∧ _
    unfold lb_Plan_refresh_39
    have lq := qS_lt (a := a) hi
    rw [(C' m5 w5).1, if_neg (nI_ge hi (by omega)), show ln 108 = 24 from rfl, rd_n (by omega) (by omega), q5 i hi]
    obtain ⟨m6, e6, P6, f6⟩ := settle_ok hV (C' m5 w5) (pl_fg n d a i) P5 lq (pl_no (fun j hj q => by have := qS_inj (by omega) hi q; omega))
    rw [e6]
    simp only [cP, bd, nI_1]
    refine ih m6 ⟨P6, fun j hj => ?_, ?_, w5.tr (f6.mo (fun o j q => by unfold SPl; omega))⟩
    · rw [f6 _ _ (by omega)]; exact q5 j hj
    · rw [f6 _ _ (by omega)]; exact z5
  · rintro f m5 ⟨P5, q5, z5, w5⟩
    show ∃ m', lb_Plan_refresh_39 f (nI n) m5 = some m' ∧ _
    unfold lb_Plan_refresh_39
    rw [(C' m5 w5).1, if_pos (nI_le (Nat.le_refl _) (by omega))]
    exact ⟨m5, rfl, P5, z5, w5⟩
