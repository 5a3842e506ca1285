/-! PURE PART: names that are far from each other never clash; the layout's questions -/
def okB (a : Ch) (i k : Nat) : Bool := decide (k = 0) || (decide (a 1 i = k) || (decide (k = 2) && decide (a 1 i = 3)))
theorem isOfKind_eq {m : Me} {n d : Nat} {a : Ch} {i k : Nat} (hV : VV n d a) (hC : CC m 10 n d a) (hi : i < n) (hk : k ≤ 3) : f_Chart_isOfKind (nI i) (nI k) m = some (bI (okB a i k)) := by
  have h24 := hV.1
  have h3 := (hV.2.2.1 i hi).1.1
  unfold f_Chart_isOfKind okB
  simp only [bd, show ln 11 = 24 from rfl, rd_n (show i < 24 by omega) (show 24 < 2 ^ 31 by decide), (hC.nm hi).1]
  have e0 : (nI k = 0) ↔ k = 0 := nI_eq (b := 0) (by omega) (by decide)
  have e1 : (nI k = nI (a 1 i)) ↔ k = a 1 i := nI_eq (by omega) (by omega)
  have e2 : (nI k = (2 : Int32)) ↔ k = 2 := nI_eq (b := 2) (by omega) (by decide)
  have e3 : (nI (a 1 i) = (3 : Int32)) ↔ a 1 i = 3 := nI_eq (b := 3) (by omega) (by decide)
  simp only [e0, e1, e2, e3]
  by_cases c0 : k = 0
  · rw [if_pos c0]; simp [c0]; rfl
  · rw [if_neg c0]
    by_cases c1 : k = a 1 i
    · rw [if_pos c1]; simp [c1]; rfl
    · rw [if_neg c1]
      have c1' : ¬ a 1 i = k := fun q => c1 q.symm
      by_cases c2 : k = 2
      · rw [if_pos c2]
        by_cases c3 : a 1 i = 3
        · rw [if_pos c3]; simp [c2, c3]; rfl
        · rw [if_neg c3]
          subst c2
          simp [c1', c3]; rfl
      · rw [if_neg c2]; simp [c0, c1', c2]; rfl
def raS (a : Ch) (i : Nat) : Nat := a 4 i + (if 2 ≤ a 1 i then 40 else 2)
def rdS (a : Ch) (i : Nat) : Nat := (if a 1 i = 1 then 2 * a 5 i else a 5 i) + (if 2 ≤ a 1 i then 40 else 2)
theorem ok2 {a : Ch} {i : Nat} (h : a 1 i ≤ 3) : okB a i 2 = decide (2 ≤ a 1 i) := by
  unfold okB
  rcases (show a 1 i = 0 ∨ a 1 i = 1 ∨ a 1 i = 2 ∨ a 1 i = 3 by omega) with q | q | q | q <;> rw [q] <;> rfl
theorem across_eq {m : Me} {n d : Nat} {a : Ch} {i : Nat} (hV : VV n d a) (hC : CC m 10 n d a) (hi : i < n) : f_Chart_reachAcross (nI i) m = some (nI (raS a i)) := by
  have h24 := hV.1
  have h3 := (hV.2.2.1 i hi).1.1
  unfold f_Chart_reachAcross raS
  rw [show ln 14 = 24 from rfl, rd_n (by omega) (by omega), (hC.nm hi).2.2.2.1, show f_Chart_isOfKind (nI i) 2 m = _ from isOfKind_eq (k := 2) hV hC hi (by omega), ok2 h3]
  simp only [cP, bI_z]
  by_cases c : 2 ≤ a 1 i
  · rw [if_neg (by simp [c]), if_pos c]
    exact congrArg some (nI_add _ 40)
  · rw [if_pos (by simp [c]), if_neg c]
    exact congrArg some (nI_add _ 2)
theorem down_eq {m : Me} {n d : Nat} {a : Ch} {i : Nat} (hV : VV n d a) (hC : CC m 10 n d a) (hi : i < n) : f_Chart_reachDown (nI i) m = some (nI (rdS a i)) := by
  have h24 := hV.1
  have h3 := (hV.2.2.1 i hi).1.1
  unfold f_Chart_reachDown rdS
  rw [show ln 11 = 24 from rfl, rd_n (by omega) (by omega), (hC.nm hi).1, show f_Chart_isOfKind (nI i) 2 m = _ from isOfKind_eq (k := 2) hV hC hi (by omega), ok2 h3]
  simp only [bd, cP, bI_z, show ln 15 = 24 from rfl, rd_n (show i < 24 by omega) (show 24 < 2 ^ 31 by decide), (hC.nm hi).2.2.2.2]
  by_cases q : a 1 i = 1
  · rw [if_pos (by rw [q]; rfl), if_pos q, show (2 : Int32) * nI (a 5 i) = nI (2 * a 5 i) from pk_mul 2 _]
    have c : ¬ 2 ≤ a 1 i := by omega
    rw [if_pos (by simp [c]), if_neg c]
    exact congrArg some (nI_add _ 2)
  · rw [if_neg (show ¬ nI _ = (1 : Int32) from nI_ne (b := 1) (by omega) (by decide) q), if_neg q]
    by_cases c : 2 ≤ a 1 i
    · rw [if_neg (by simp [c]), if_pos c]
      exact congrArg some (nI_add _ 40)
    · rw [if_pos (by simp [c]), if_neg c]
      exact congrArg some (nI_add _ 2)
noncomputable def neB (a : Ch) (i j : Nat) : Bool := pB ((((a 2 i : Int) - (a 2 j : Int)).natAbs < raS a i + raS a j) ∧ (((a 3 i : Int) - (a 3 j : Int)).natAbs < rdS a i + rdS a j))
theorem mb_eq {x y : Nat} (hx : x ≤ 1000) (hy : y ≤ 1000) : mb (nI x - nI y) = nI ((x : Int) - (y : Int)).natAbs := by
  unfold mb
  rw [nI_i, nI_i, iI_sub]
  obtain ⟨-, -, -, h4⟩ := b_lt0 (x := (x : Int) - y) (by omega) (by omega)
  by_cases c : 0 ≤ (x : Int) - y
  · rw [if_pos (h4.mpr c), nI_i]
    congr 1
    omega
  · rw [if_neg (fun q => c (h4.mp q)), nI_i, show (0 : Int32) = iI 0 from rfl, iI_sub]
    congr 1
    omega
theorem near_eq {m : Me} {n d : Nat} {a : Ch} {i j : Nat} (hV : VV n d a) (hC : CC m 10 n d a) (hi : i < n) (hj : j < n) : f_Chart_areNear (nI i) (nI j) m = some (bI (neB a i j)) := by
  have h24 := hV.1
  obtain ⟨k1, x1, y1, -, w1, -, g1, -⟩ := (hV.2.2.1 i hi).1
  obtain ⟨k2, x2, y2, -, w2, -, g2, -⟩ := (hV.2.2.1 j hj).1
  unfold f_Chart_areNear
  have r1 : raS a i ≤ 340 ∧ raS a j ≤ 340 ∧ rdS a i ≤ 200 ∧ rdS a j ≤ 200 := by
    unfold raS rdS
    refine ⟨?_, ?_, ?_, ?_⟩ <;> (repeat' split) <;> omega
  simp only [show ln 12 = 24 from rfl, show ln 13 = 24 from rfl, rd_n (show i < 24 by omega) (show 24 < 2 ^ 31 by decide), rd_n (show j < 24 by omega) (show 24 < 2 ^ 31 by decide), across_eq hV hC hi, across_eq hV hC hj, down_eq hV hC hi, down_eq hV hC hj, cP, (hC.nm hi).2.1, (hC.nm hj).2.1, (hC.nm hi).2.2.1, (hC.nm hj).2.2.1, nI_add, mb_eq x1 x2, mb_eq y1 y2]
  unfold neB
  simp only [nI_leI (show raS a i + raS a j < 2 ^ 31 by omega) (show ((a 2 i : Int) - (a 2 j : Int)).natAbs < 2 ^ 31 by omega), nI_leI (show rdS a i + rdS a j < 2 ^ 31 by omega) (show ((a 3 i : Int) - (a 3 j : Int)).natAbs < 2 ^ 31 by omega)]
  by_cases c1 : raS a i + raS a j ≤ ((a 2 i : Int) - (a 2 j : Int)).natAbs
  · rw [if_pos c1, pB_f.mpr (by omega)]; rfl
  · rw [if_neg c1]
    by_cases c2 : rdS a i + rdS a j ≤ ((a 3 i : Int) - (a 3 j : Int)).natAbs
    · rw [if_pos c2, pB_f.mpr (by omega)]; rfl
    · rw [if_neg c2, pB_t.mpr (by omega)]; rfl
theorem st_rg {f s len off R : Nat} (h1 : 1 ≤ len) (h2 : len + off ≤ R) (h3 : 1 ≤ off) : (f : Int) - R ≤ stS f s len off ∧ stS f s len off + len ≤ (f : Int) + R ∧ 2 * (f : Int) - 2 * R < 2 * stS f s len off + len ∧ 2 * stS f s len off + len < 2 * (f : Int) + 2 * R := by
  unfold stS
  repeat' split
  all_goals omega
theorem reach {a : Ch} {i w : Nat} (hN : NmS a i) (hw : w < waysS a i) : bwS a i w + offS a i w ≤ raS a i ∧ bhS a i w + offS a i w ≤ rdS a i ∧ 1 ≤ bwS a i w ∧ 1 ≤ bhS a i w ∧ 1 ≤ offS a i w := by
  obtain ⟨k1, x1, y1, w0, w1, g0, g1, -⟩ := hN
  unfold bwS bhS offS raS rdS turnS ledS
  rcases (show a 1 i = 0 ∨ a 1 i = 1 ∨ a 1 i = 2 ∨ a 1 i = 3 by omega) with q | q | q | q <;> rw [q] <;> by_cases c : 8 ≤ w <;> simp [c] <;> omega
theorem near_of {a : Ch} {i w j v : Nat} (hN1 : NmS a i) (hN2 : NmS a j) (hw : w < waysS a i) (hv : v < waysS a j) (h : clB a i w j v 0 = true) : neB a i j = true := by
  have hc : clS a i w j v 0 := pB_t.mp h
  obtain ⟨p1, p2, p3, p4, p5⟩ := reach hN1 hw
  obtain ⟨q1, q2, q3, q4, q5⟩ := reach hN2 hv
  refine pB_t.mpr ?_
  unfold clS lS tS at hc
  rw [show a 2 i * 2 ^ 0 = a 2 i by omega, show a 3 i * 2 ^ 0 = a 3 i by omega, show a 2 j * 2 ^ 0 = a 2 j by omega, show a 3 j * 2 ^ 0 = a 3 j by omega] at hc
  have b1 := st_rg (f := a 2 i) (s := acrS (w % 8)) (R := raS a i) p3 p1 p5
  have b2 := st_rg (f := a 3 i) (s := dwnS (w % 8)) (R := rdS a i) p4 p2 p5
  have b3 := st_rg (f := a 2 j) (s := acrS (v % 8)) (R := raS a j) q3 q1 q5
  have b4 := st_rg (f := a 3 j) (s := dwnS (v % 8)) (R := rdS a j) q4 q2 q5
  generalize stS (a 2 i) (acrS (w % 8)) (bwS a i w) (offS a i w) = l1 at *
  generalize stS (a 3 i) (dwnS (w % 8)) (bhS a i w) (offS a i w) = t1 at *
  generalize stS (a 2 j) (acrS (v % 8)) (bwS a j v) (offS a j v) = l2 at *
  generalize stS (a 3 j) (dwnS (v % 8)) (bhS a j v) (offS a j v) = t2 at *
  unfold hitI at hc
  rcases hc with h1 | ⟨-, h1⟩ | ⟨-, h1⟩ | ⟨-, -, h1⟩
  · obtain ⟨o1, o2, o3, o4⟩ := h1
    omega
  · obtain ⟨o1, o2, -⟩ := h1
    omega
  · obtain ⟨o1, o2, -⟩ := h1
    omega
  · obtain ⟨⟨o1, o2⟩, -⟩ := h1
    omega
/-! questions of the layout -/
theorem layOpen_eq {m : Me} {n d : Nat} {a : Ch} {i w : Nat} (hV : VV n d a) (hL : LK m n d a) (hi : i < n) (hw : w < 16) : f_Lay_isOpen (nI i) (nI w) m = some (bI (owB n d a i w)) := by
  have h24 := hV.1
  unfold f_Lay_isOpen
  rw [show ln 5 = 24 from rfl, rd_n (by omega) (by omega)]
  simp only [tst (show w < 32 by omega), (hL i hi).2 w]
  cases owB n d a i w <;> rfl
theorem ow_lt {n d : Nat} {a : Ch} {i w : Nat} (h : owB n d a i w = true) : w < waysS a i := by
  unfold owB at h
  simp at h
  exact h.1
theorem hitL_eq {m : Me} {n d : Nat} {a : Ch} {i w j v : Nat} (hV : VV n d a) (hL : LK m n d a) (hi : i < n) (hj : j < n) (hw : w < waysS a i) (hv : v < waysS a j) : f_Box_hits (bx i w) (bx j v) m = some (bI (clB a i w j v 0)) :=
  hits_eq (by omega) (hV.2.2.1 i hi).1 (hV.2.2.1 j hj).1 ((hL i hi).1 w hw) ((hL j hj).1 v hv)
theorem openHits_eq {m : Me} {n d : Nat} {a : Ch} {i w j : Nat} (hV : VV n d a) (hL : LK m n d a) (hi : i < n) (hj : j < n) (hw : w < waysS a i) :
    ∃ x, f_Lay_openHits (nI i) (nI w) (nI j) m = some x ∧ ∀ v, bb x v = (owB n d a j v && clB a i w j v 0) := by
  have h24 := hV.1
  have w16 := waysS_le (a := a) (i := i)
  unfold f_Lay_openHits
  rw [boxOf_eq (by omega) (by omega)]
  simp only [cP]
  refine up aV 16 (fun k x => ∀ v, bb x v = (decide (v < k) && (owB n d a j v && clB a i w j v 0))) (fun r => ∃ x, r = some x ∧ ∀ v, bb x v = (owB n d a j v && clB a i w j v 0)) 0 0 (by omega) (by unfold FU; omega) (fun v => by rw [bb_0]; simp) ?_ ?_
  · intro f k x hk hI ih
    show ∃ x', lb_Lay_openHits_14 (nI j) m (bx i w) f x (nI k) = some x' ∧ _
    unfold lb_Lay_openHits_14
    rw [if_neg (show ¬ (16 : Int32) ≤ nI _ from nI_ge (b := 16) hk (by decide)), layOpen_eq hV hL hj hk]
    simp only [cP, bd, bI_z, nI_1]
    have nx : ∀ x', (∀ v, bb x' v = (decide (v < k + 1) && (owB n d a j v && clB a i w j v 0))) → ∃ x'', f x' (nI (k + 1)) = some x'' ∧ ∀ v, bb x'' v = (owB n d a j v && clB a i w j v 0) := fun x' hx' => ih x' hx'
    have same : (owB n d a j k && clB a i w j k 0) = false → ∀ v, bb x v = (decide (v < k + 1) && (owB n d a j v && clB a i w j v 0)) := by
      intro hf v
      rw [hI v]
      by_cases q : v = k
      · subst q; rw [hf]; simp
      · by_cases q2 : v < k
        · simp [q2, show v < k + 1 by omega]
        · simp [q2, show ¬ v < k + 1 by omega]
    cases ho : owB n d a j k with
    | false =>
      rw [if_pos rfl]
      exact nx x (same (by rw [ho]; rfl))
    | true =>
      rw [if_neg (by decide), boxOf_eq (by omega) hk]
      simp only []
      rw [hitL_eq hV hL hi hj hw (ow_lt ho)]
      simp only [bI_z]
      cases hc : clB a i w j k 0 with
      | false =>
        rw [if_pos rfl]
        exact nx x (same (by rw [hc]; simp))
      | true =>
        rw [if_neg (by decide)]
        refine nx _ (fun v => ?_)
        rw [bb_or, hI v, bb_shl1 (by omega)]
        by_cases q : v = k
        · subst q; simp [ho, hc]
        · have q' : ¬ k = v := fun e => q e.symm
          by_cases q2 : v < k
          · simp [q', q2, show v < k + 1 by omega]
          · simp [q', q2, show ¬ v < k + 1 by omega]
  · intro f x hI
    show ∃ x', lb_Lay_openHits_14 (nI j) m (bx i w) f x (nI 16) = some x' ∧ _
    unfold lb_Lay_openHits_14
    rw [if_pos (by decide)]
    refine ⟨x, rfl, fun v => ?_⟩
    rw [hI v]
    by_cases q : v < 16
    · simp [q]
    · have : owB n d a j v = false := by
        have := waysS_le (a := a) (i := j)
        unfold owB
        simp [show ¬ v < waysS a j by omega]
      rw [this]; simp
noncomputable def tcB (n d : Nat) (a : Ch) (i j : Nat) : Bool := anyB (fun w => owB n d a i w && anyB (fun v => owB n d a j v && clB a i w j v 0) 16) 16
theorem openClash_eq {m : Me} {n d : Nat} {a : Ch} {i j : Nat} (hV : VV n d a) (hL : LK m n d a) (hi : i < n) (hj : j < n) : f_Lay_openWaysClash (nI i) (nI j) m = some (bI (tcB n d a i j)) := by
  have h24 := hV.1
  unfold f_Lay_openWaysClash
  refine up aU 16 (fun k _ => ∀ w, w < k → (owB n d a i w && anyB (fun v => owB n d a j v && clB a i w j v 0) 16) = false) (fun r => r = some (bI (tcB n d a i j))) 0 () (by omega) (by unfold FU; omega) (fun w hw => by omega) ?_ ?_
  · intro f w _ hw hI ih
    show lb_Lay_openWaysClash_2 (nI i) (nI j) m f (nI w) = _
    unfold lb_Lay_openWaysClash_2
    rw [if_neg (show ¬ (16 : Int32) ≤ nI _ from nI_ge (b := 16) hw (by decide))]
    simp only [bd, nI_1]
    have nx : (owB n d a i w && anyB (fun v => owB n d a j v && clB a i w j v 0) 16) = false → f (nI (w + 1)) = some (bI (tcB n d a i j)) := by
      intro hf
      refine ih () (fun u hu => ?_)
      by_cases q : u = w
      · subst q; exact hf
      · exact hI u (by omega)
    refine up aU 16 (fun k _ => ∀ v, v < k → (owB n d a j v && clB a i w j v 0) = false) (fun r => r = some (bI (tcB n d a i j))) 0 () (by omega) (by unfold FU; omega) (fun w hw => by omega) ?_ ?_
    · intro g v _ hv hJ ih2
      show lb_Lay_openWaysClash_11 (nI i) (nI j) m (nI w) _ g (nI v) = _
      unfold lb_Lay_openWaysClash_11
      rw [if_neg (show ¬ (16 : Int32) ≤ nI _ from nI_ge (b := 16) hv (by decide)), layOpen_eq hV hL hi hw]
      simp only [cP, bd, bI_z, nI_1]
      cases ho : owB n d a i w with
      | false =>
        rw [if_pos rfl]
        exact nx (by rw [ho]; rfl)
      | true =>
        rw [if_neg (by decide), layOpen_eq hV hL hj hv]
        simp only [bI_z]
        have nx2 : (owB n d a j v && clB a i w j v 0) = false → g (nI (v + 1)) = some (bI (tcB n d a i j)) := by
          intro hf
          refine ih2 () (fun u hu => ?_)
          by_cases q : u = v
          · subst q; exact hf
          · exact hJ u (by omega)
        cases hp : owB n d a j v with
        | false =>
          rw [if_pos rfl]
          exact nx2 (by rw [hp]; rfl)
        | true =>
          rw [if_neg (by decide), boxOf_eq (by omega) hw, boxOf_eq (by omega) hv]
          simp only []
          rw [hitL_eq hV hL hi hj (ow_lt ho) (ow_lt hp)]
          simp only [bI_z]
          cases hc : clB a i w j v 0 with
          | false =>
            rw [if_pos rfl]
            exact nx2 (by rw [hc]; simp)
          | true =>
            rw [if_neg (by decide)]
            have : tcB n d a i j = true := anyB_t.mpr ⟨w, hw, by simp only [ho, Bool.true_and]; exact anyB_t.mpr ⟨v, hv, by rw [hp, hc]; rfl⟩⟩
            rw [this]; rfl
    · intro g _ hJ
      show lb_Lay_openWaysClash_11 (nI i) (nI j) m (nI w) _ g (nI 16) = _
      unfold lb_Lay_openWaysClash_11
      rw [if_pos (by decide)]
      refine nx ?_
      rw [anyB_f.mpr hJ]
      simp
  · intro f _ hI
    show lb_Lay_openWaysClash_2 (nI i) (nI j) m f (nI 16) = _
    unfold lb_Lay_openWaysClash_2
    rw [if_pos (by decide)]
    rw [show tcB n d a i j = false from anyB_f.mpr hI]
    rfl
theorem tc_near {n d : Nat} {a : Ch} {i j : Nat} (hV : VV n d a) (hi : i < n) (hj : j < n) (h : tcB n d a i j = true) : neB a i j = true := by
  obtain ⟨w, -, h1⟩ := anyB_t.mp h
  rw [Bool.and_eq_true] at h1
  obtain ⟨v, -, h2⟩ := anyB_t.mp h1.2
  rw [Bool.and_eq_true] at h2
  exact near_of (hV.2.2.1 i hi).1 (hV.2.2.1 j hj).1 (ow_lt h1.1) (ow_lt h2.1) h2.2
