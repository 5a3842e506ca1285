/-! PURE PART, BEST: all names of a part are settled -/
def Spk (o j : Nat) : Prop := (o = 9 ∧ (j = 8 ∨ j = 9)) ∨ o = 109
theorem SRm.fr2 {m m' : Me} {K : Nat} {must : Nat → Bool} {gain : Nat → Nat → Nat} {ban : Nat → Nat → Nat → Nat → Bool} (h : SRm m K must gain ban) (f : Fm Spk m m') (g : LF m m') : SRm m' K must gain ban := by
  obtain ⟨h1, h2, h3, h4, h5⟩ := h
  refine ⟨h1, ?_, ?_, ?_, ?_⟩
  · rw [f _ _ (by unfold Spk; omega)]; exact h2
  · intro i hi
    rw [f _ _ (by unfold Spk; omega)]; exact h3 i hi
  · intro i r hi hr
    rw [f _ _ (by unfold Spk; omega)]; exact h4 i r hi hr
  · intro i r j s hi hr hj hs
    rw [g _ _ (by omega), g _ _ (by omega)]; exact h5 i r j s hi hr hj hs
def PJ (a : Ch) (M : Nat → Nat) (must : Nat → Bool) (gain : Nat → Nat → Nat) (ban : Nat → Nat → Nat → Nat → Bool) (Ob : Nat → Nat → Bool) (K W : Nat) (m0 : Me) (D : Nat → Prop) (m' : Me) (dd : Nat → Nat) : Prop :=
  Fm Spk m0 m' ∧ LF m0 m' ∧ InO K (av (m'.2 9 6) (m'.2 9 7)) Ob ∧
  (∀ c, BCs must gain ban K Ob W c → (∀ i, i < K → D i → c i = dd i) → BCs must gain ban K (av (m'.2 9 6) (m'.2 9 7)) W c) ∧
  (∀ c, BCs must gain ban K (av (m'.2 9 6) (m'.2 9 7)) W c → ∀ i, i < K → D i → c i = dd i) ∧
  (∃ c, BCs must gain ban K (av (m'.2 9 6) (m'.2 9 7)) W c) ∧
  (∀ i, i < K → D i → dd i ≤ 16 ∧ m'.1 109 (M i) = hI (wyS a M i (dd i))) ∧
  (∀ i, i < K → D i → ∀ c, BCs must gain ban K Ob W c → (∀ i', i' < K → M i' < M i → c i' = dd i') → wyS a M i (dd i) ≤ wyS a M i (c i)) ∧
  ∀ j, (∀ i, i < K → M i ≠ j) → m'.1 109 j = m0.1 109 j
set_option maxHeartbeats 1000000 in
theorem pick15 {m0 m : Me} {n d : Nat} {a : Ch} {K : Nat} {M : Nat → Nat} {must : Nat → Bool} {gain : Nat → Nat → Nat} {ban : Nat → Nat → Nat → Nat → Bool} {Ob : Nat → Nat → Bool} {k W : Nat} {dd : Nat → Nat} {Kt : Me → Option Me} {Q : Option Me → Prop} (hV : VV n d a) (hC : CC m0 10 n d a) (hM : ∀ j, j < K → m0.1 100 j = nI (M j) ∧ M j < n) (hMi : ∀ j j', j < K → j' < K → M j = M j' → j = j') (hS : SRm m0 K must gain ban) (hP : PO K must gain ban Ob) (hW : W ≤ 1400000) (hmax : ∀ c, CPr must ban K 0 Ob c → vlr gain K 0 c ≤ W) (hk : k < n)
    (hJ : PJ a M must gain ban Ob K W m0 (fun i => M i < k) m dd)
    (hK : ∀ m' dd', PJ a M must gain ban Ob K W m0 (fun i => M i < k + 1) m' dd' → Q (Kt m')) : Q ((fx (lb_Search_pickFirst_15 (nI W) 109 (nI k) Kt) (fun _ _ => none) FU) 0 m) := by
  have k7 := hS.1
  have n24 := hV.1
  refine up aM K (fun ii m' => ∃ dd, PJ a M must gain ban Ob K W m0 (fun i => M i < k ∨ (M i = k ∧ i < ii)) m' dd) Q 0 m (by omega) (by unfold FU; omega) ⟨dd, ?_⟩ ?_ ?_
  · obtain ⟨j1, j2, j3, j4, j5, j6, j7, j8, j9⟩ := hJ
    refine ⟨j1, j2, j3, fun c hc h => j4 c hc (fun i hi hd => h i hi (Or.inl hd)), fun c hc i hi hd => j5 c hc i hi (by omega), j6, fun i hi hd => j7 i hi (by omega), fun i hi hd => j8 i hi (by omega), j9⟩
  · rintro f ii m1 hii ⟨dd, j1, j2, j3, j4, j5, j6, j7, j8, j9⟩ ih
    show Q (lb_Search_pickFirst_15 (nI W) 109 (nI k) Kt f (nI ii) m1)
    unfold lb_Search_pickFirst_15
    have S1 := hS.fr2 j1 j2
    obtain ⟨mi1, mi2⟩ := hM ii hii
    rw [S1.2.1, if_neg (nI_ge hii (by omega)), show ln 100 = 7 from rfl, rd_n (by omega) (by omega), show m1.1 100 ii = nI (M ii) by rw [j1 _ _ (by unfold Spk; omega)]; exact mi1, bdE]
    by_cases e : M ii = k
    · rw [if_pos (by rw [e])]
      obtain ⟨r, m2, r16, e2, t1, t2, t3, t4, t5, t6, t7⟩ := firstR_ok (m := m1) (i := ii) hV (hC.fr j1 (fun o j _ _ => by unfold Spk; omega)) (fun j hj => by rw [j1 _ _ (by unfold Spk; omega)]; exact hM j hj) S1 hP j3 hii hW hmax j6
      rw [e2, cI_s, show ln 109 = 24 from rfl, wi_n (by omega) (by omega)]
      simp only []
      rw [bdE, nI_1]
      have dne : ∀ i, i < K → (M i < k ∨ (M i = k ∧ i < ii)) → i ≠ ii := fun i hi hd z => by subst z; omega
      have deq : ∀ i, i < K → (M i < k ∨ (M i = k ∧ i < ii + 1)) → i ≠ ii → (M i < k ∨ (M i = k ∧ i < ii)) := fun i hi hd z => by omega
      obtain ⟨dd', ds, dn'⟩ : ∃ dd' : Nat → Nat, dd' ii = r ∧ ∀ i, i ≠ ii → dd' i = dd i := ⟨fun i => if i = ii then r else dd i, if_pos rfl, fun i h => if_neg h⟩
      refine ih _ ⟨dd', ?_, ?_, t3, ?_, ?_, t6, ?_, ?_, ?_⟩
      · exact (j1.tr (t1.mo (fun o j w => Or.inl w))).wr' (by unfold Spk; omega)
      · intro o j w
        show m2.2 o j = m0.2 o j
        rw [t2 o j w, j2 o j w]
      · intro c hc h
        have hr : c ii = r := by have := h ii hii (Or.inr ⟨e, by omega⟩); rw [ds] at this; exact this
        refine t5 c (j4 c hc (fun i hi hd => ?_)) hr
        have := h i hi (by omega)
        rw [dn' i (dne i hi hd)] at this
        exact this
      · intro c hc i hi hd
        obtain ⟨q1, q2⟩ := t4 c hc
        by_cases z : i = ii
        · rw [z, ds]; exact q1
        · rw [dn' i z]; exact j5 c q2 i hi (deq i hi hd z)
      · intro i hi hd
        by_cases z : i = ii
        · subst z
          rw [ds]
          refine ⟨r16, ?_⟩
          rw [← e, si_s]
        · rw [dn' i z]
          obtain ⟨q1, q2⟩ := j7 i hi (deq i hi hd z)
          refine ⟨q1, ?_⟩
          have hne : M i ≠ k := fun w => z (hMi i ii hi hii (by omega))
          rw [si1, if_neg (by omega), t1 _ _ (by unfold S98; omega)]
          exact q2
      · intro i hi hd c hc h
        by_cases z : i = ii
        · subst z
          rw [ds]
          refine t7 c (j4 c hc (fun i' hi' hd' => ?_))
          have hlt : M i' < M i := by
            rcases hd' with w | w
            · omega
            · have := hMi i' i hi' hi (by omega)
              omega
          have := h i' hi' hlt
          rw [dn' i' (fun w => by rw [w] at hlt; omega)] at this
          exact this
        · rw [dn' i z]
          refine j8 i hi (deq i hi hd z) c hc (fun i' hi' hlt => ?_)
          have := h i' hi' hlt
          rw [dn' i' (fun w => by subst w; omega)] at this
          exact this
      · intro j hj
        rw [si1, if_neg (fun w => hj ii hii (by omega)), t1 _ _ (by unfold S98; omega)]
        exact j9 j hj
    · rw [if_neg (nI_ne (by omega) (by omega) e)]
      simp only []
      rw [bdE, nI_1]
      have dq : ∀ i, i < K → (M i < k ∨ (M i = k ∧ i < ii + 1)) → (M i < k ∨ (M i = k ∧ i < ii)) := fun i hi hd => by
        rcases hd with w | ⟨w1, w2⟩
        · exact Or.inl w
        · by_cases z : i = ii
          · subst z; omega
          · exact Or.inr ⟨w1, by omega⟩
      exact ih m1 ⟨dd, j1, j2, j3, fun c hc h => j4 c hc (fun i hi hd => h i hi (by omega)), fun c hc i hi hd => j5 c hc i hi (dq i hi hd), j6, fun i hi hd => j7 i hi (dq i hi hd), fun i hi hd => j8 i hi (dq i hi hd), j9⟩
  · rintro f m1 ⟨dd, j1, j2, j3, j4, j5, j6, j7, j8, j9⟩
    show Q (lb_Search_pickFirst_15 (nI W) 109 (nI k) Kt f (nI K) m1)
    unfold lb_Search_pickFirst_15
    have S1 := hS.fr2 j1 j2
    rw [S1.2.1, if_pos (nI_le (Nat.le_refl _) (by omega))]
    exact hK m1 dd ⟨j1, j2, j3, fun c hc h => j4 c hc (fun i hi hd => h i hi (by omega)), fun c hc i hi hd => j5 c hc i hi (by omega), j6, fun i hi hd => j7 i hi (by omega), fun i hi hd => j8 i hi (by omega), j9⟩
theorem pick_ok {m : Me} {n d : Nat} {a : Ch} {K : Nat} {M : Nat → Nat} {must : Nat → Bool} {gain : Nat → Nat → Nat} {ban : Nat → Nat → Nat → Nat → Bool} {Ob : Nat → Nat → Bool} {W : Nat} (hV : VV n d a) (hC : CC m 10 n d a) (hM : ∀ j, j < K → m.1 100 j = nI (M j) ∧ M j < n) (hMi : ∀ j j', j < K → j' < K → M j = M j' → j = j') (hS : SRm m K must gain ban) (hP : PO K must gain ban Ob) (hW : W ≤ 1400000) (hmax : ∀ c, CPr must ban K 0 Ob c → vlr gain K 0 c ≤ W) (hA : ∀ j s, j < K → s < 16 → av (m.2 9 6) (m.2 9 7) j s = Ob j s) (hex : ∃ c, BCs must gain ban K Ob W c) :
    ∃ (m' : Me) (dd : Nat → Nat), f_Search_pickFirst (nI W) 109 m = some m' ∧ BCs must gain ban K Ob W dd ∧ (∀ i, i < K → m'.1 109 (M i) = hI (wyS a M i (dd i))) ∧ (∀ i, i < K → ∀ c, BCs must gain ban K Ob W c → (∀ i', i' < K → M i' < M i → c i' = dd i') → wyS a M i (dd i) ≤ wyS a M i (c i)) ∧ (∀ j, (∀ i, i < K → M i ≠ j) → m'.1 109 j = m.1 109 j) ∧ Fm Spk m m' := by
  have n24 := hV.1
  have toO : ∀ c, BCs must gain ban K Ob W c → BCs must gain ban K (av (m.2 9 6) (m.2 9 7)) W c := fun c hc => ⟨CP_mo (fun j s j1 j2 hs w => by rw [hA j s (by omega) hs]; exact w) hc.1, hc.2⟩
  unfold f_Search_pickFirst
  refine up aM n (fun k m' => ∃ dd, PJ a M must gain ban Ob K W m (fun i => M i < k) m' dd) (fun r => ∃ (m' : Me) (dd : Nat → Nat), r = some m' ∧ BCs must gain ban K Ob W dd ∧ (∀ i, i < K → m'.1 109 (M i) = hI (wyS a M i (dd i))) ∧ (∀ i, i < K → ∀ c, BCs must gain ban K Ob W c → (∀ i', i' < K → M i' < M i → c i' = dd i') → wyS a M i (dd i) ≤ wyS a M i (c i)) ∧ (∀ j, (∀ i, i < K → M i ≠ j) → m'.1 109 j = m.1 109 j) ∧ Fm Spk m m') 0 m (by omega) (by unfold FU; omega) ⟨fun _ => 0, Fm.rf, fun _ _ _ => rfl, fun j s hj hs w => by rw [hA j s hj hs] at w; exact w, fun c hc _ => toO c hc, fun c hc i hi hd => by omega, ?_, fun i hi hd => by omega, fun i hi hd => by omega, fun j _ => rfl⟩ ?_ ?_
  · obtain ⟨c, hc⟩ := hex
    exact ⟨c, toO c hc⟩
  · rintro f k m1 hk ⟨dd, hJ⟩ ih
    show ∃ (m' : Me) (dd : Nat → Nat), lb_Search_pickFirst_3 (nI W) 109 f (nI k) m1 = some m' ∧ _
    unfold lb_Search_pickFirst_3
    rw [(hC.fr hJ.1 (fun o j _ _ => by unfold Spk; omega)).1, if_neg (nI_ge hk (by omega)), bdE]
    refine pick15 (Q := fun r => ∃ (m' : Me) (dd : Nat → Nat), r = some m' ∧ BCs must gain ban K Ob W dd ∧ (∀ i, i < K → m'.1 109 (M i) = hI (wyS a M i (dd i))) ∧ (∀ i, i < K → ∀ c, BCs must gain ban K Ob W c → (∀ i', i' < K → M i' < M i → c i' = dd i') → wyS a M i (dd i) ≤ wyS a M i (c i)) ∧ (∀ j, (∀ i, i < K → M i ≠ j) → m'.1 109 j = m.1 109 j) ∧ Fm Spk m m') hV hC hM hMi hS hP hW hmax hk hJ ?_
    intro m2 dd2 hJ2
    rw [bdE, nI_1]
    exact ih m2 ⟨dd2, hJ2⟩
  · rintro f m1 ⟨dd, j1, j2, j3, j4, j5, j6, j7, j8, j9⟩
    show ∃ (m' : Me) (dd : Nat → Nat), lb_Search_pickFirst_3 (nI W) 109 f (nI n) m1 = some m' ∧ _
    unfold lb_Search_pickFirst_3
    rw [(hC.fr j1 (fun o j _ _ => by unfold Spk; omega)).1, if_pos (nI_le (Nat.le_refl _) (by omega))]
    obtain ⟨c, hc⟩ := j6
    have ce : ∀ i, i < K → c i = dd i := fun i hi => j5 c hc i hi (hM i hi).2
    have hcO : BCs must gain ban K Ob W c := ⟨CP_mo (fun j s k1 k2 hs w => j3 j s (by omega) hs w) hc.1, hc.2⟩
    refine ⟨m1, dd, rfl, ⟨?_, ?_⟩, fun i hi => (j7 i hi (hM i hi).2).2, fun i hi => j8 i hi (hM i hi).2, j9, j1⟩
    · obtain ⟨h1, h2⟩ := CP_flat.mp hcO.1
      refine CP_flat.mpr ⟨fun t t1 t2 => by rw [← ce t (by omega)]; exact h1 t t1 t2, fun j k k1 k2 k3 k4 => ?_⟩
      rw [← ce k (by omega)] at k4 ⊢
      rw [← ce j (by omega)]
      exact h2 j k k1 k2 k3 k4
    · rw [← hcO.2]
      exact vl_cg (fun j k1 k2 => (ce j (by omega)).symm)
theorem most_w {m : Me} {K : Nat} {must : Nat → Bool} {gain : Nat → Nat → Nat} {ban : Nat → Nat → Nat → Nat → Bool} {Ob : Nat → Nat → Bool} (hS : SRm m K must gain ban) (hP : PO K must gain ban Ob) (hA : ∀ j s, j < K → s < 16 → av (m.2 9 6) (m.2 9 7) j s = Ob j s) :
    ∃ m' : Me, Fm S98 m m' ∧ m'.2 = m.2 ∧ ((f_Search_mostWorth m = some (-1, m') ∧ ∀ c, ¬ CPr must ban K 0 Ob c) ∨ ∃ W, W ≤ 1400000 ∧ f_Search_mostWorth m = some (nI W, m') ∧ (∀ c, CPr must ban K 0 Ob c → vlr gain K 0 c ≤ W) ∧ ∃ c, BCs must gain ban K Ob W c) := by
  have k7 := hS.1
  unfold f_Search_mostWorth
  rw [bdE, bdE]
  have f9 : Fm S98 m (si (si m 9 8 (-1)) 9 9 1000000000) := (Fm.wr (by unfold S98; omega)).wr' (by unfold S98; omega)
  have S9 : SRm (si (si m 9 8 (-1)) 9 9 1000000000) K must gain ban := hS.fr f9 (fun o _ => rfl)
  obtain ⟨m10, mo', e10, t1, t2, t3, t4, t5, t6, t7⟩ := desc_ok hP.1 K 30 0 (m.2 9 6) (m.2 9 7) 0 (-1) 1000000000 (si (si m 9 8 (-1)) 9 9 1000000000) (by omega) (by omega) S9 (fun j s hj hs w => by rw [hA j s hj hs] at w; exact w) (by rw [si1, if_neg (by omega), si_s]; rfl) si_s (by omega) (by omega) (by omega) (by omega)
  rw [show f_Search_descend 30 0 ((si (si m 9 8 (-1)) 9 9 1000000000).2 9 6) ((si (si m 9 8 (-1)) 9 9 1000000000).2 9 7) 0 (si (si m 9 8 (-1)) 9 9 1000000000) = some m10 from e10, cP_s, t1]
  have toA : ∀ c, CPr must ban K 0 (av (m.2 9 6) (m.2 9 7)) c ↔ CPr must ban K 0 Ob c := fun c => ⟨fun h => CP_mo (fun j s j1 j2 hs w => by rw [hA j s (by omega) hs] at w; exact w) h, fun h => CP_mo (fun j s j1 j2 hs w => by rw [hA j s (by omega) hs]; exact w) h⟩
  refine ⟨m10, f9.tr (t6.mo (fun o j w => by unfold S98; omega)), t7, ?_⟩
  rcases t4 with w | ⟨c, hc, ec⟩
  · left
    refine ⟨by rw [w]; rfl, fun c hc => ?_⟩
    have := t5 (by omega) c ((toA c).mpr hc)
    omega
  · right
    have vb := vl_le (gain := gain) (q := K) (i := 0) (c := c) hP.1.1
    refine ⟨vlr gain K 0 c, by omega, by rw [ec, nI_i]; congr 3; omega, fun c' hc' => ?_, c, (toA c).mp hc, rfl⟩
    have := t5 (by omega) c' ((toA c').mpr hc')
    omega
