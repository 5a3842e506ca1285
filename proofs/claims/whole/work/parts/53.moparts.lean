/-! PURE PART: parts, the reference's side -/
theorem wz_n {ρ : Type} {m : Me} {o n i : Nat} {v : Int32} {K : Me → Option ρ} (h : i < n) (hn : n < 2 ^ 31) (hv : v = 0 ∨ v = 1) : wz m o n (nI i) v K = K (si m o i v) := by
  unfold wz
  rw [if_neg (nI_in h hn), nI_clamp (by omega), if_pos hv]
def FO (m : Me) (n d : Nat) (a : Ch) : Prop := ∀ k v, k < n → v < 16 → m.1 214 (16 * k + v) = bI (owB n d a k v)
def SFo (o j : Nat) : Prop := SD o j ∨ o = 214
def SFp (o j : Nat) : Prop := SD o j ∨ o = 213 ∨ o = 214
def S213 (o : Nat) (_ : Nat) : Prop := o = 213
def S2 (o j : Nat) : Prop := SD o j ∨ o = 213
set_option maxHeartbeats 1000000 in
theorem findOpen_ok {m : Me} {n d : Nat} {a : Ch} (hV : VV n d a) (hM : MM m n d a) : ∃ m', f_Mo_findOpen m = some m' ∧ FO m' n d a ∧ Fm SFo m m' := by
  have h24 := hV.1
  have M' : ∀ m', Fm SFo m m' → MM m' n d a := fun m' f => hM.fr f (by unfold SFo SD; omega) (by unfold SFo SD; omega) (fun o j _ _ => by unfold SFo SD; omega)
  unfold f_Mo_findOpen
  refine up aM n (fun k m' => (∀ x v, x < k → v < 16 → m'.1 214 (16 * x + v) = bI (owB n d a x v)) ∧ Fm SFo m m') (fun r => ∃ m', r = some m' ∧ FO m' n d a ∧ Fm SFo m m') 0 m (by omega) (by unfold FU; omega) ⟨fun x v hx => by omega, Fm.rf⟩ ?_ ?_
  · rintro f k m1 hk ⟨a1, f1⟩ ih
    show ∃ m', lb_Mo_findOpen_2 f (nI k) m1 = some m' ∧ _
    unfold lb_Mo_findOpen_2
    rw [(M' m1 f1).1, if_neg (nI_ge hk (by omega))]
    simp only [bd, nI_1]
    refine up aM 16 (fun v m' => (∀ x u, x < k → u < 16 → m'.1 214 (16 * x + u) = bI (owB n d a x u)) ∧ (∀ u, u < v → m'.1 214 (16 * k + u) = bI (owB n d a k u)) ∧ Fm SFo m m') (fun r => ∃ m', r = some m' ∧ FO m' n d a ∧ Fm SFo m m') 0 m1 (by omega) (by unfold FU; omega) ⟨a1, fun u hu => by omega, f1⟩ ?_ ?_
    · rintro g v m2 hv ⟨a2, b2, f2⟩ ih2
      show ∃ m', lb_Mo_findOpen_12 (nI k) _ g (nI v) m2 = some m' ∧ _
      unfold lb_Mo_findOpen_12
      have M2 := M' m2 f2
      rw [if_neg (show ¬ (16 : Int32) ≤ nI v from nI_ge (b := 16) hv (by decide)), moWays_eq hV M2 hk]
      simp only [cP, bd, nI_1, show (16 : Int32) * nI k = nI (16 * k) from pk_mul 16 k, nI_add, show ln 214 = 384 from rfl]
      have nx : ∀ m3, Fm SFo m2 m3 → (∀ o j, o = 214 → m3.1 o j = m2.1 o j) → ∃ m', (wz m3 214 384 (nI (16 * k + v)) (bI (owB n d a k v)) (fun m10 => g (nI (v + 1)) m10)) = some m' ∧ FO m' n d a ∧ Fm SFo m m' := by
        intro m3 f3 h3
        rw [wz_n (by omega) (by omega) (bI_01 _)]
        refine ih2 _ ⟨fun x u hx hu => ?_, fun u hu => ?_, (f2.tr f3).wr' (by unfold SFo; omega)⟩
        · rw [si1, if_neg (by omega), h3 _ _ rfl]; exact a2 x u hx hu
        · rw [si1]
          by_cases q : u = v
          · subst q; rw [if_pos ⟨rfl, rfl⟩]
          · rw [if_neg (by omega), h3 _ _ rfl]; exact b2 u (by omega)
      by_cases c : waysS a k ≤ v
      · rw [if_pos (nI_le c (by omega))]
        have e : owB n d a k v = false := by unfold owB; simp [show ¬ v < waysS a k by omega]
        have := nx m2 Fm.rf (fun _ _ _ => rfl)
        rw [e] at this
        exact this
      · have w16 := waysS_le (a := a) (i := k)
        rw [if_neg (nI_ge (by omega) (by omega))]
        obtain ⟨m3, e3, f3⟩ := moOpen_eq (w := v) (z := 0) hV M2 hk hv (by omega)
        rw [show f_Mo_isOpen (nI k) (nI v) 0 m2 = _ from e3]
        simp only [cI, bI_z]
        have e : owB n d a k v = opB n d a k v 0 := by unfold owB; simp [show v < waysS a k by omega]
        have := nx m3 (f3.mo (fun o j q => Or.inl q)) (fun o j q => f3 o j (by unfold SD; omega))
        rw [e] at this
        cases ho : opB n d a k v 0 with
        | false => rw [if_pos rfl]; rw [ho] at this; exact this
        | true => rw [if_neg (by decide)]; rw [ho] at this; exact this
    · rintro g m2 ⟨a2, b2, f2⟩
      show ∃ m', lb_Mo_findOpen_12 (nI k) _ g (nI 16) m2 = some m' ∧ _
      unfold lb_Mo_findOpen_12
      rw [if_pos (show (16 : Int32) ≤ nI 16 by decide)]
      refine ih _ ⟨fun x v hx hv => ?_, f2⟩
      by_cases q : x = k
      · subst q; exact b2 v hv
      · exact a2 x v (by omega) hv
  · rintro f m1 ⟨a1, f1⟩
    show ∃ m', lb_Mo_findOpen_2 f (nI n) m1 = some m' ∧ _
    unfold lb_Mo_findOpen_2
    rw [(M' m1 f1).1, if_pos (nI_le (Nat.le_refl _) (by omega))]
    exact ⟨m1, rfl, fun k v hk hv => a1 k v hk hv, f1⟩
theorem FO.fr {S : Nat → Nat → Prop} {m m' : Me} {n d : Nat} {a : Ch} (h : FO m n d a) (f : Fm S m m') (g : ∀ j, ¬ S 214 j) : FO m' n d a := fun k v hk hv => by rw [f _ _ (g _)]; exact h k v hk hv
set_option maxHeartbeats 1000000 in
theorem touch_eq {m : Me} {n d : Nat} {a : Ch} {i j : Nat} (hV : VV n d a) (hM : MM m n d a) (hO : FO m n d a) (hi : i < n) (hj : j < n) : ∃ m', f_Mo_touch (nI i) (nI j) m = some (bI (tcB n d a i j), m') ∧ Fm SD m m' := by
  have h24 := hV.1
  unfold f_Mo_touch
  refine up aM 16 (fun k m' => (∀ w, w < k → (owB n d a i w && anyB (fun v => owB n d a j v && clB a i w j v 0) 16) = false) ∧ Fm SD m m') (fun r => ∃ m', r = some (bI (tcB n d a i j), m') ∧ Fm SD m m') 0 m (by omega) (by unfold FU; omega) ⟨fun w hw => by omega, Fm.rf⟩ ?_ ?_
  · rintro f w m1 hw ⟨a1, f1⟩ ih
    show ∃ m', lb_Mo_touch_2 (nI i) (nI j) f (nI w) m1 = some (_, m') ∧ _
    unfold lb_Mo_touch_2
    rw [if_neg (show ¬ (16 : Int32) ≤ nI w from nI_ge (b := 16) hw (by decide))]
    simp only [bd, nI_1]
    have nx : ∀ m', Fm SD m m' → (owB n d a i w && anyB (fun v => owB n d a j v && clB a i w j v 0) 16) = false → ∃ m'', f (nI (w + 1)) m' = some (bI (tcB n d a i j), m'') ∧ Fm SD m m'' := by
      intro m' f' hf
      refine ih m' ⟨fun u hu => ?_, f'⟩
      by_cases q : u = w
      · subst q; exact hf
      · exact a1 u (by omega)
    refine up aM 16 (fun k m' => (∀ v, v < k → (owB n d a j v && clB a i w j v 0) = false) ∧ Fm SD m m') (fun r => ∃ m', r = some (bI (tcB n d a i j), m') ∧ Fm SD m m') 0 m1 (by omega) (by unfold FU; omega) ⟨fun w hw => by omega, f1⟩ ?_ ?_
    · rintro g v m2 hv ⟨a2, f2⟩ ih2
      have O2 := hO.fr f2 (fun j => by unfold SD; omega)
      show ∃ m', lb_Mo_touch_11 (nI i) (nI j) (nI w) _ g (nI v) m2 = some (_, m') ∧ _
      unfold lb_Mo_touch_11
      rw [if_neg (show ¬ (16 : Int32) ≤ nI v from nI_ge (b := 16) hv (by decide)), show (16 : Int32) * nI i = nI (16 * i) from pk_mul 16 i, show (16 : Int32) * nI j = nI (16 * j) from pk_mul 16 j, nI_add, nI_add, show ln 214 = 384 from rfl, rd_n (by omega) (by omega), O2 i w hi hw, rd_n (by omega) (by omega), O2 j v hj hv]
      simp only [bd, bI_z, nI_1]
      cases ho : owB n d a i w with
      | false =>
        rw [if_pos rfl]
        exact nx m2 f2 (by rw [ho]; rfl)
      | true =>
        rw [if_neg (by decide)]
        have nx2 : ∀ m', Fm SD m m' → (owB n d a j v && clB a i w j v 0) = false → ∃ m'', g (nI (v + 1)) m' = some (bI (tcB n d a i j), m'') ∧ Fm SD m m'' := by
          intro m' f' hf
          refine ih2 m' ⟨fun u hu => ?_, f'⟩
          by_cases q : u = v
          · subst q; exact hf
          · exact a2 u (by omega)
        cases hp : owB n d a j v with
        | false =>
          rw [if_pos rfl]
          exact nx2 m2 f2 (by rw [hp]; rfl)
        | true =>
          rw [if_neg (by decide)]
          obtain ⟨m3, e3, f3⟩ := doClash_eq (z := 0) hV (hM.fD f2) hi hj hw hv (by omega)
          rw [show f_Mo_doClash (nI i) (nI w) (nI j) (nI v) 0 m2 = _ from e3]
          simp only [cI, bI_z]
          cases hc : clB a i w j v 0 with
          | false =>
            rw [if_pos rfl]
            exact nx2 m3 (f2.tr f3) (by rw [hc]; simp)
          | true =>
            rw [if_neg (by decide)]
            have : tcB n d a i j = true := anyB_t.mpr ⟨w, hw, by simp only [ho, Bool.true_and]; exact anyB_t.mpr ⟨v, hv, by rw [hp, hc]; rfl⟩⟩
            rw [this]
            exact ⟨m3, rfl, f2.tr f3⟩
    · rintro g m2 ⟨a2, f2⟩
      show ∃ m', lb_Mo_touch_11 (nI i) (nI j) (nI w) _ g (nI 16) m2 = some (_, m') ∧ _
      unfold lb_Mo_touch_11
      rw [if_pos (show (16 : Int32) ≤ nI 16 by decide)]
      refine nx m2 f2 ?_
      rw [anyB_f.mpr a2]
      simp
  · rintro f m1 ⟨a1, f1⟩
    show ∃ m', lb_Mo_touch_2 (nI i) (nI j) f (nI 16) m1 = some (_, m') ∧ _
    unfold lb_Mo_touch_2
    rw [if_pos (show (16 : Int32) ≤ nI 16 by decide), show tcB n d a i j = false from anyB_f.mpr a1]
    exact ⟨m1, rfl, f1⟩
/-! the stages of findParts -/
theorem st4 {m : Me} {n : Nat} {C : Nat → Nat} {v : Int32} (hn : n ≤ 24) (h1 : m.1 200 1 = nI n) (h : ∀ i, i < n → m.1 213 i = iI (-1 - (C i : Int))) :
    ∃ m', (fx (lb_Mo_findParts_268 v) (fun _ _ => none) FU) 0 m = some (v, m') ∧ (∀ i, i < n → m'.1 213 i = nI (C i)) ∧ Fm S213 m m' := by
  refine up aM n (fun k m' => (∀ i, i < k → m'.1 213 i = nI (C i)) ∧ (∀ i, k ≤ i → i < n → m'.1 213 i = iI (-1 - (C i : Int))) ∧ Fm S213 m m') (fun r => ∃ m', r = some (v, m') ∧ (∀ i, i < n → m'.1 213 i = nI (C i)) ∧ Fm S213 m m') 0 m (by omega) (by unfold FU; omega) ⟨fun i hi => by omega, fun i _ hi => h i hi, Fm.rf⟩ ?_ ?_
  · rintro f k m1 hk ⟨a1, b1, f1⟩ ih
    show ∃ m', lb_Mo_findParts_268 v f (nI k) m1 = some (v, m') ∧ _
    unfold lb_Mo_findParts_268
    rw [f1 200 1 (by unfold S213; omega), h1, if_neg (nI_ge hk (by omega)), show ln 213 = 24 from rfl, rd_n (by omega) (by omega), b1 k (Nat.le_refl _) hk, wi_n (by omega) (by omega)]
    simp only [bd, nI_1]
    rw [show (-1 : Int32) - iI (-1 - (C k : Int)) = nI (C k) by
      rw [show (-1 : Int32) = iI (-1) from rfl, iI_sub, nI_i]; congr 1; omega]
    refine ih _ ⟨fun i hi => ?_, fun i i1 i2 => ?_, f1.wr' rfl⟩
    · rw [si1]
      by_cases q : i = k
      · subst q; rw [if_pos ⟨rfl, rfl⟩]
      · rw [if_neg (by omega)]; exact a1 i (by omega)
    · rw [si1, if_neg (by omega)]; exact b1 i (by omega) i2
  · rintro f m1 ⟨a1, b1, f1⟩
    show ∃ m', lb_Mo_findParts_268 v f (nI n) m1 = some (v, m') ∧ _
    unfold lb_Mo_findParts_268
    rw [f1 200 1 (by unfold S213; omega), h1, if_pos (nI_le (Nat.le_refl _) (by omega))]
    exact ⟨m1, rfl, a1, f1⟩
theorem neg_ne {c k : Nat} (hc : c ≤ 24) (hk : k ≤ 24) : ¬ iI (-1 - (c : Int)) = nI k := by
  rw [nI_i, iI_eq (by omega) (by omega) (by omega) (by omega)]
  omega
set_option maxHeartbeats 1000000 in
theorem st3 {m : Me} {n : Nat} {R : Nat → Nat} {K : Int32 → Me → Option (Int32 × Me)} {Q : Option (Int32 × Me) → Prop} (hn : n ≤ 24) (hR : GR n R) (h1 : m.1 200 1 = nI n) (h : ∀ i, i < n → m.1 213 i = nI (R i))
    (hK : ∀ m', (∀ i, i < n → m'.1 213 i = iI (-1 - (pnS R i : Int))) → Fm S213 m m' → Q (K (nI (nrS R n)) m')) : Q ((fx (lb_Mo_findParts_195 K) (fun _ _ _ => none) FU) 0 0 m) := by
  obtain ⟨r1, r2, r3⟩ := hR
  have nle : ∀ k, nrS R k ≤ k := fun k => cnt_le _ k
  refine up aVM n (fun k s => s.1 = nI (nrS R k) ∧ (∀ i, i < n → s.2.1 213 i = if R i < k then iI (-1 - (pnS R i : Int)) else nI (R i)) ∧ Fm S213 m s.2) Q 0 (0, m) (by omega) (by unfold FU; omega) ⟨rfl, fun i hi => by rw [if_neg (by omega)]; exact h i hi, Fm.rf⟩ ?_ ?_
  · rintro f k ⟨v, m1⟩ hk ⟨e1, a1, f1⟩ ih
    show Q (lb_Mo_findParts_195 K f v (nI k) m1)
    unfold lb_Mo_findParts_195
    have e1 : v = nI (nrS R k) := e1
    have a1 : ∀ i, i < n → m1.1 213 i = if R i < k then iI (-1 - (pnS R i : Int)) else nI (R i) := a1
    have f1 : Fm S213 m m1 := f1
    have q200 : m1.1 200 1 = nI n := by rw [f1 200 1 (by unfold S213; omega)]; exact h1
    rw [q200, if_neg (nI_ge hk (by omega)), show ln 213 = 24 from rfl, rd_n (by omega) (by omega), a1 k hk]
    simp only [bd, nI_1]
    by_cases q : R k < k
    · rw [if_pos q, if_neg (neg_ne (by have := nle (R k); have := r1 k; unfold pnS; omega) (by omega))]
      have e2 : nrS R (k + 1) = nrS R k := by
        show cnt (rbS R) k + (if rbS R k = true then 1 else 0) = _
        rw [if_neg (by unfold rbS; simp; omega)]
        rfl
      refine ih (v, m1) ⟨by rw [e2]; exact e1, fun i hi => ?_, f1⟩
      show m1.1 213 i = _
      rw [a1 i hi]
      by_cases w : R i < k
      · rw [if_pos w, if_pos (by omega)]
      · rw [if_neg w, if_neg]
        intro u
        have : R i = k := by omega
        have := r2 i
        rw [‹R i = k›] at this
        omega
    · have q' : R k = k := by have := r1 k; omega
      have e2 : nrS R (k + 1) = nrS R k + 1 := by
        show cnt (rbS R) k + (if rbS R k = true then 1 else 0) = _
        rw [if_pos (by unfold rbS; simp [q'])]
        rfl
      rw [if_neg q, q', if_pos rfl]
      have pk : ∀ i, R i = k → pnS R i = nrS R k := fun i hi => by unfold pnS; rw [hi]
      refine up aM n (fun j m' => (∀ i, i < n → m'.1 213 i = if R i < k ∨ (R i = k ∧ i < j) then iI (-1 - (pnS R i : Int)) else nI (R i)) ∧ Fm S213 m m') Q k m1 (by omega) (by unfold FU; omega) ⟨fun i hi => ?_, f1⟩ ?_ ?_
      · rw [a1 i hi]
        by_cases w : R i < k
        · rw [if_pos w, if_pos (Or.inl w)]
        · rw [if_neg w, if_neg (by have := r1 i; omega)]
      · rintro g j m2 hj ⟨a2, f2⟩ ih2
        show Q (lb_Mo_findParts_215 v (nI k) _ g (nI j) m2)
        unfold lb_Mo_findParts_215
        have r1j := r1 j
        rw [f2 200 1 (by unfold S213; omega), h1, if_neg (nI_ge hj (by omega)), show ln 213 = 24 from rfl, rd_n (by omega) (by omega), a2 j hj]
        simp only [bd, nI_1, wi_n (show j < 24 by omega) (show 24 < 2 ^ 31 by decide), rd_n (show j < 24 by omega) (show 24 < 2 ^ 31 by decide)]
        have nx : ∀ x, x = (if R j < k ∨ (R j = k ∧ j < j + 1) then iI (-1 - (pnS R j : Int)) else nI (R j)) → Q (g (nI (j + 1)) (si m2 213 j x)) := by
          intro x hx
          refine ih2 _ ⟨fun i hi => ?_, f2.wr' rfl⟩
          rw [si1]
          by_cases w : i = j
          · subst w; rw [if_pos ⟨rfl, rfl⟩]; exact hx
          · rw [if_neg (by omega), a2 i hi]
            by_cases w2 : R i < k ∨ (R i = k ∧ i < j)
            · rw [if_pos w2, if_pos (by omega)]
            · rw [if_neg w2, if_neg (by omega)]
        by_cases c : R j < k
        · rw [if_pos (Or.inl c), if_neg (neg_ne (by have := nle (R j); unfold pnS; omega) (by omega))]
          exact nx _ (by rw [a2 j hj, if_pos (Or.inl c), if_pos (Or.inl c)])
        · rw [if_neg (show ¬ (R j < k ∨ (R j = k ∧ j < j)) by omega)]
          by_cases c2 : R j = k
          · rw [c2, if_pos rfl]
            refine nx _ ?_
            rw [if_pos (by omega), e1, pk j c2, show (-1 : Int32) = iI (-1) from rfl, nI_i, iI_sub]
          · rw [if_neg (nI_ne (by omega) (by omega) c2)]
            exact nx _ (by rw [a2 j hj, if_neg (by omega), if_neg (by omega)])
      · rintro g m2 ⟨a2, f2⟩
        show Q (lb_Mo_findParts_215 v (nI k) _ g (nI n) m2)
        unfold lb_Mo_findParts_215
        rw [f2 200 1 (by unfold S213; omega), h1, if_pos (nI_le (Nat.le_refl _) (by omega)), e1, show nI (nrS R k) + 1 = nI (nrS R (k + 1)) by rw [nI_1, e2]]
        refine ih (_, m2) ⟨rfl, fun i hi => ?_, f2⟩
        show m2.1 213 i = _
        rw [a2 i hi]
        by_cases w : R i < k + 1
        · rw [if_pos w, if_pos (by omega)]
        · rw [if_neg w, if_neg (by omega)]
  · rintro f ⟨v, m1⟩ ⟨e1, a1, f1⟩
    show Q (lb_Mo_findParts_195 K f v (nI n) m1)
    unfold lb_Mo_findParts_195
    have e1 : v = nI (nrS R n) := e1
    have f1 : Fm S213 m m1 := f1
    rw [f1 200 1 (by unfold S213; omega), h1, if_pos (nI_le (Nat.le_refl _) (by omega)), e1]
    refine hK m1 (fun i hi => ?_) f1
    have := a1 i hi
    rw [if_pos (by have := r1 i; omega)] at this
    exact this
theorem jn134 {m : Me} {n lo hi : Nat} {R : Nat → Nat} {K : Me → Option (Int32 × Me)} {Q : Option (Int32 × Me) → Prop} (hn : n ≤ 24) (hh : hi < 24) (hR : ∀ k, R k ≤ k) (h1 : m.1 200 1 = nI n) (h : ∀ i, i < n → m.1 213 i = nI (R i))
    (hK : ∀ m', (∀ i, i < n → m'.1 213 i = nI (if R i = hi then lo else R i)) → Fm S213 m m' → Q (K m')) : Q ((fx (lb_Mo_findParts_134 K (nI hi) (nI lo)) (fun _ _ => none) FU) 0 m) := by
  refine up aM n (fun k m' => (∀ i, i < k → m'.1 213 i = nI (if R i = hi then lo else R i)) ∧ (∀ i, k ≤ i → i < n → m'.1 213 i = nI (R i)) ∧ Fm S213 m m') Q 0 m (by omega) (by unfold FU; omega) ⟨fun i hi => by omega, fun i _ hi => h i hi, Fm.rf⟩ ?_ ?_
  · rintro f k m1 hk ⟨a1, b1, f1⟩ ih
    show Q (lb_Mo_findParts_134 K (nI hi) (nI lo) f (nI k) m1)
    unfold lb_Mo_findParts_134
    have r := hR k
    rw [f1 200 1 (by unfold S213; omega), h1, if_neg (nI_ge hk (by omega)), show ln 213 = 24 from rfl, rd_n (by omega) (by omega), b1 k (Nat.le_refl _) hk]
    simp only [bd, nI_1, wi_n (show k < 24 by omega) (show 24 < 2 ^ 31 by decide), rd_n (show k < 24 by omega) (show 24 < 2 ^ 31 by decide), b1 k (Nat.le_refl _) hk]
    have nx : Q (f (nI (k + 1)) (si m1 213 k (nI (if R k = hi then lo else R k)))) := by
      refine ih _ ⟨fun i hi => ?_, fun i i1 i2 => ?_, f1.wr' rfl⟩
      · rw [si1]
        by_cases q : i = k
        · subst q; rw [if_pos ⟨rfl, rfl⟩]
        · rw [if_neg (by omega)]; exact a1 i (by omega)
      · rw [si1, if_neg (by omega)]; exact b1 i (by omega) i2
    by_cases q : R k = hi
    · rw [if_pos (by rw [q])]
      rw [if_pos q] at nx
      exact nx
    · rw [if_neg (nI_ne (by omega) (by omega) q)]
      rw [if_neg q] at nx
      exact nx
  · rintro f m1 ⟨a1, b1, f1⟩
    show Q (lb_Mo_findParts_134 K (nI hi) (nI lo) f (nI n) m1)
    unfold lb_Mo_findParts_134
    rw [f1 200 1 (by unfold S213; omega), h1, if_pos (nI_le (Nat.le_refl _) (by omega))]
    exact hK m1 a1 f1
set_option maxHeartbeats 1000000 in
theorem st2 {m : Me} {n d : Nat} {a : Ch} {K : Me → Option (Int32 × Me)} {Q : Option (Int32 × Me) → Prop} (hV : VV n d a) (hM : MM m n d a) (hO : FO m n d a) (h : ∀ i, i < n → m.1 213 i = nI i)
    (hK : ∀ m', (∀ i, i < n → m'.1 213 i = nI (rtS (tcB n d a) n i)) → Fm S2 m m' → Q (K m')) : Q ((fx (lb_Mo_findParts_29 K) (fun _ _ => none) FU) 0 m) := by
  have h24 := hV.1
  have M' : ∀ m', Fm S2 m m' → MM m' n d a := fun m' f => hM.fr f (by unfold S2 SD; omega) (by unfold S2 SD; omega) (fun o j _ _ => by unfold S2 SD; omega)
  refine up aM n (fun x m' => (∀ i, i < n → m'.1 213 i = nI (rtS (tcB n d a) x i)) ∧ Fm S2 m m') Q 0 m (by omega) (by unfold FU; omega) ⟨h, Fm.rf⟩ ?_ ?_
  · rintro f x m1 hx ⟨a1, f1⟩ ih
    show Q (lb_Mo_findParts_29 K f (nI x) m1)
    unfold lb_Mo_findParts_29
    rw [(M' m1 f1).1, if_neg (nI_ge hx (by omega))]
    simp only [bd, nI_1]
    have G0 := rt_gr (tcB n d a) x
    have G1 : GR (x + 1) (rtS (tcB n d a) x) := ⟨G0.1, G0.2.1, fun k hk => G0.2.2 k (by omega)⟩
    refine up aM x (fun y m' => (∀ i, i < n → m'.1 213 i = nI (rowS (tcB n d a) x y (rtS (tcB n d a) x) i)) ∧ Fm S2 m m') Q 0 m1 (by omega) (by unfold FU; omega) ⟨a1, f1⟩ ?_ ?_
    · rintro g y m2 hy ⟨a2, f2⟩ ih2
      show Q (lb_Mo_findParts_39 (nI x) _ g (nI y) m2)
      unfold lb_Mo_findParts_39
      have G := row_gr (tc := tcB n d a) G1 (show y ≤ x by omega)
      have ih' : ∀ m', (∀ i, i < n → m'.1 213 i = nI (jnS (tcB n d a) (rowS (tcB n d a) x y (rtS (tcB n d a) x)) x y i)) → Fm S2 m m' → Q (g (nI (y + 1)) m') := fun m' h1 h2 => ih2 m' ⟨h1, h2⟩
      generalize rowS (tcB n d a) x y (rtS (tcB n d a) x) = R1 at *
      have gx := G.1 x
      have gy := G.1 y
      rw [if_neg (nI_ge hy (by omega)), show ln 213 = 24 from rfl, rd_n (by omega) (by omega), rd_n (by omega) (by omega), a2 x hx, a2 y (by omega)]
      simp only [bd, nI_1]
      have nx : ∀ m3, (∀ i, i < n → m3.1 213 i = nI (R1 i)) → Fm S2 m m3 → ¬ (R1 x ≠ R1 y ∧ tcB n d a x y = true) → Q (g (nI (y + 1)) m3) := by
        intro m3 h3 f3 q
        refine ih' m3 (fun k hk => ?_) f3
        unfold jnS
        rw [if_neg q]
        exact h3 k hk
      by_cases q : R1 x = R1 y
      · rw [if_pos (by rw [q])]
        exact nx m2 a2 f2 (fun w => w.1 q)
      · rw [if_neg (nI_ne (by omega) (by omega) q)]
        obtain ⟨m3, e3, f3⟩ := touch_eq hV (M' m2 f2) (hO.fr f2 (fun j => by unfold S2 SD; omega)) hx (show y < n by omega)
        have f23 : Fm S2 m m3 := f2.tr (f3.mo (fun o j q => Or.inl q))
        have a3 : ∀ i, i < n → m3.1 213 i = nI (R1 i) := fun i hi => by rw [f3 213 i (by unfold SD; omega)]; exact a2 i hi
        rw [e3]
        simp only [cI, bI_z]
        cases ht : tcB n d a x y with
        | false =>
          rw [if_pos rfl]
          exact nx m3 a3 f23 (fun w => by rw [ht] at w; exact absurd w.2 (by decide))
        | true =>
          rw [if_neg (by decide)]
          simp only [rd_n (show x < 24 by omega) (show 24 < 2 ^ 31 by decide), rd_n (show y < 24 by omega) (show 24 < 2 ^ 31 by decide), a3 x hx, a3 y (show y < n by omega)]
          have fin : ∀ lo hi, lo = min (R1 x) (R1 y) → hi = max (R1 x) (R1 y) → Q ((fx (lb_Mo_findParts_134 (fun m35 => g (nI (y + 1)) m35) (nI hi) (nI lo)) (fun _ _ => none) FU) 0 m3) := by
            intro lo hi elo ehi
            refine jn134 h24 (by omega) G.1 (M' m3 f23).1 a3 (fun m4 a4 f4 => ?_)
            refine ih' m4 (fun i hi' => ?_) (f23.tr (f4.mo (fun o j q => Or.inr q)))
            unfold jnS
            rw [if_pos ⟨q, ht⟩, ← elo, ← ehi]
            exact a4 i hi'
          by_cases c : R1 x ≤ R1 y
          · rw [if_pos (nI_le c (by omega)), if_pos (nI_le c (by omega))]
            exact fin _ _ (by omega) (by omega)
          · rw [if_neg (nI_ge (by omega) (by omega)), if_neg (nI_ge (by omega) (by omega))]
            exact fin _ _ (by omega) (by omega)
    · rintro g m2 ⟨a2, f2⟩
      show Q (lb_Mo_findParts_39 (nI x) _ g (nI x) m2)
      unfold lb_Mo_findParts_39
      rw [if_pos (nI_le (Nat.le_refl _) (by omega))]
      exact ih m2 ⟨a2, f2⟩
  · rintro f m1 ⟨a1, f1⟩
    show Q (lb_Mo_findParts_29 K f (nI n) m1)
    unfold lb_Mo_findParts_29
    rw [(M' m1 f1).1, if_pos (nI_le (Nat.le_refl _) (by omega))]
    exact hK m1 a1 f1
theorem st1 {m : Me} {n : Nat} {K : Me → Option (Int32 × Me)} {Q : Option (Int32 × Me) → Prop} (hn : n ≤ 24) (h1 : m.1 200 1 = nI n)
    (hK : ∀ m', (∀ i, i < n → m'.1 213 i = nI i) → Fm S213 m m' → Q (K m')) : Q ((fx (lb_Mo_findParts_6 K) (fun _ _ => none) FU) 0 m) := by
  refine up aM n (fun k m' => (∀ i, i < k → m'.1 213 i = nI i) ∧ Fm S213 m m') Q 0 m (by omega) (by unfold FU; omega) ⟨fun i hi => by omega, Fm.rf⟩ ?_ ?_
  · rintro f k m1 hk ⟨a1, f1⟩ ih
    show Q (lb_Mo_findParts_6 K f (nI k) m1)
    unfold lb_Mo_findParts_6
    rw [f1 200 1 (by unfold S213; omega), h1, if_neg (nI_ge hk (by omega)), show ln 213 = 24 from rfl, wi_n (by omega) (by omega)]
    simp only [bd, nI_1]
    refine ih _ ⟨fun i hi => ?_, f1.wr' rfl⟩
    rw [si1]
    by_cases q : i = k
    · subst q; rw [if_pos ⟨rfl, rfl⟩]
    · rw [if_neg (by omega)]; exact a1 i (by omega)
  · rintro f m1 ⟨a1, f1⟩
    show Q (lb_Mo_findParts_6 K f (nI n) m1)
    unfold lb_Mo_findParts_6
    rw [f1 200 1 (by unfold S213; omega), h1, if_pos (nI_le (Nat.le_refl _) (by omega))]
    exact hK m1 a1 f1
theorem findParts_ok {m : Me} {n d : Nat} {a : Ch} (hV : VV n d a) (hM : MM m n d a) : ∃ m', f_Mo_findParts m = some (nI (nrS (rtS (tcB n d a) n) n), m') ∧ (∀ i, i < n → m'.1 213 i = nI (pnS (rtS (tcB n d a) n) i)) ∧ FO m' n d a ∧ Fm SFp m m' := by
  have h24 := hV.1
  obtain ⟨m1, e1, O1, f1⟩ := findOpen_ok hV hM
  have w1 : Fm SFp m m1 := f1.mo (fun o j q => q.elim Or.inl (fun w => Or.inr (Or.inr w)))
  have M' : ∀ m', Fm SFp m m' → MM m' n d a := fun m' f => hM.fr f (by unfold SFp SD; omega) (by unfold SFp SD; omega) (fun o j _ _ => by unfold SFp SD; omega)
  unfold f_Mo_findParts
  rw [e1]
  simp only [cP, bd]
  refine st1 (Q := fun r => ∃ m', r = some (nI (nrS (rtS (tcB n d a) n) n), m') ∧ (∀ i, i < n → m'.1 213 i = nI (pnS (rtS (tcB n d a) n) i)) ∧ FO m' n d a ∧ Fm SFp m m') h24 (M' m1 w1).1 (fun m2 a2 f2 => ?_)
  have w2 : Fm SFp m m2 := w1.tr (f2.mo (fun o j q => by unfold S213 at q; unfold SFp; omega))
  have O2 := O1.fr f2 (fun j => by unfold S213; omega)
  refine st2 (Q := fun r => ∃ m', r = some (nI (nrS (rtS (tcB n d a) n) n), m') ∧ (∀ i, i < n → m'.1 213 i = nI (pnS (rtS (tcB n d a) n) i)) ∧ FO m' n d a ∧ Fm SFp m m') hV (M' m2 w2) O2 a2 (fun m3 a3 f3 => ?_)
  have w3 : Fm SFp m m3 := w2.tr (f3.mo (fun o j q => q.elim Or.inl (fun w => Or.inr (Or.inl w))))
  have O3 := O2.fr f3 (fun j => by unfold S2 SD; omega)
  refine st3 (Q := fun r => ∃ m', r = some (nI (nrS (rtS (tcB n d a) n) n), m') ∧ (∀ i, i < n → m'.1 213 i = nI (pnS (rtS (tcB n d a) n) i)) ∧ FO m' n d a ∧ Fm SFp m m') h24 (rt_gr _ n) (M' m3 w3).1 a3 (fun m4 a4 f4 => ?_)
  have w4 : Fm SFp m m4 := w3.tr (f4.mo (fun o j q => by unfold S213 at q; unfold SFp; omega))
  have O4 := O3.fr f4 (fun j => by unfold S213; omega)
  obtain ⟨m5, e5, a5, f5⟩ := st4 (v := nI (nrS (rtS (tcB n d a) n) n)) h24 (M' m4 w4).1 a4
  rw [e5]
  exact ⟨m5, rfl, a5, O4.fr f5 (fun j => by unfold S213; omega), w4.tr (f5.mo (fun o j q => by unfold S213 at q; unfold SFp; omega))⟩
set_option maxHeartbeats 1000000 in
theorem most_ok {m : Me} {n d : Nat} {a : Ch} (hV : VV n d a) (hM : MM m n d a) : ∃ G m', f_Mo_most m = some (nI G, m') ∧ G ≤ 24 ∧ IsMx (nrS (rtS (tcB n d a) n) n) (pcS (rtS (tcB n d a) n) n) G ∧ Fm SFp m m' := by
  have h24 := hV.1
  obtain ⟨m2, e2, a2, O2, f2⟩ := findParts_ok hV hM
  have M2 : MM m2 n d a := hM.fr f2 (by unfold SFp SD; omega) (by unfold SFp SD; omega) (fun o j _ _ => by unfold SFp SD; omega)
  unfold f_Mo_most
  rw [e2]
  simp only [cI]
  have G0 := rt_gr (tcB n d a) n
  generalize rtS (tcB n d a) n = R at *
  have nle : nrS R n ≤ n := cnt_le _ n
  refine up aV (nrS R n) (fun p s => ∃ G, s = nI G ∧ G ≤ 24 ∧ IsMx p (pcS R n) G) (fun r => ∃ G m', r = some (nI G, m') ∧ G ≤ 24 ∧ IsMx (nrS R n) (pcS R n) G ∧ Fm SFp m m') 0 0 (by omega) (by unfold FU; omega) ⟨0, rfl, by omega, fun p hp => by omega, Or.inl rfl⟩ ?_ ?_
  · rintro f p s hp ⟨G, rfl, g0, g1, g2⟩ ih
    show ∃ G' m', lb_Mo_most_9 m2 (nI (nrS R n)) f (nI G) (nI p) = some (nI G', m') ∧ _
    unfold lb_Mo_most_9
    rw [if_neg (nI_ge hp (by omega))]
    simp only [bd, nI_1]
    refine up aV n (fun k s => s = nI (pcS R k p)) (fun r => ∃ G m', r = some (nI G, m') ∧ G ≤ 24 ∧ IsMx (nrS R n) (pcS R n) G ∧ Fm SFp m m') 0 0 (by omega) (by unfold FU; omega) rfl ?_ ?_
    · rintro g k s hk hs ih2
      have hs : s = nI (pcS R k p) := hs
      subst hs
      show ∃ G' m', lb_Mo_most_20 m2 (nI p) _ g (nI (pcS R k p)) (nI k) = some (nI G', m') ∧ _
      unfold lb_Mo_most_20
      have nk : pnS R k ≤ n := by
        have := G0.1 k
        have h2 : nrS R (R k) ≤ R k := cnt_le _ _
        unfold pnS
        omega
      rw [M2.1, if_neg (nI_ge hk (by omega)), show ln 213 = 24 from rfl, rd_n (by omega) (by omega), a2 k hk]
      simp only [bd, nI_1, show (1 : Int32) = nI 1 from rfl, show (0 : Int32) = nI 0 from rfl, nI_add]
      by_cases q : pnS R k = p
      · rw [if_pos (by rw [q])]
        refine ih2 _ ?_
        show _ = nI (cnt _ k + (if decide (pnS R k = p) = true then 1 else 0))
        rw [if_pos (by simp [q])]
        rfl
      · rw [if_neg (nI_ne (by omega) (by omega) q)]
        refine ih2 _ ?_
        show _ = nI (cnt _ k + (if decide (pnS R k = p) = true then 1 else 0))
        rw [if_neg (by simp [q])]
        rfl
    · rintro g s hs
      have hs : s = nI (pcS R n p) := hs
      subst hs
      show ∃ G' m', lb_Mo_most_20 m2 (nI p) _ g (nI (pcS R n p)) (nI n) = some (nI G', m') ∧ _
      unfold lb_Mo_most_20
      have pl : pcS R n p ≤ n := cnt_le _ n
      rw [M2.1, if_pos (nI_le (Nat.le_refl _) (by omega))]
      simp only []
      by_cases c : pcS R n p ≤ G
      · rw [if_pos (nI_le c (by omega))]
        refine ih _ ⟨G, rfl, g0, fun q hq => ?_, ?_⟩
        · by_cases w : q = p
          · subst w; exact c
          · exact g1 q (by omega)
        · rcases g2 with w | ⟨q, q1, q2⟩
          · exact Or.inl w
          · exact Or.inr ⟨q, by omega, q2⟩
      · rw [if_neg (nI_ge (by omega) (by omega))]
        refine ih _ ⟨pcS R n p, rfl, by omega, fun q hq => ?_, Or.inr ⟨p, by omega, rfl⟩⟩
        by_cases w : q = p
        · subst w; exact Nat.le_refl _
        · have := g1 q (by omega); omega
  · rintro f s ⟨G, rfl, g0, g1⟩
    show ∃ G' m', lb_Mo_most_9 m2 (nI (nrS R n)) f (nI G) (nI (nrS R n)) = some (nI G', m') ∧ _
    unfold lb_Mo_most_9
    rw [if_pos (nI_le (Nat.le_refl _) (by omega))]
    exact ⟨G, m2, rfl, g0, g1, f2⟩
