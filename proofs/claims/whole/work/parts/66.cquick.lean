theorem c_quick {m : Me} (hI' : Inv m) : PairI (f_NC_quick m) f_Mo_quick := by
  obtain ⟨n, d, a, e, h, H, i⟩ := hI'
  have i1 := i.1
  have h24 := i1.1
  obtain ⟨m1, e1, j1, k1⟩ := layOut_q i
  obtain ⟨m2, e2, q2, f2⟩ := queue_ok (o := 110) (Or.inr rfl) i1 j1.2.1
  obtain ⟨m3, e3, a3, f3⟩ := fill_ok (m := m2) (o := 109) (L := 24) (v := -1) rfl (by omega)
  have f13 : Fm (fun o _ => o = 109 ∨ o = 110) m1 m3 := (f2.mo (fun o j q => Or.inr q)).tr (f3.mo (fun o j q => Or.inl q))
  have C3 := j1.2.1.fr f13 (fun o j _ _ => by omega)
  have L3 := k1.fr i1 f13 (fun o j _ => by omega)
  have A : ∃ m4, f_NC_quick m = (cP (f_NC_takeInHand m4) (fun m5 => cP (f_NC_leftInHand m5) (fun v6 => some (v6, m5)))) ∧ (∀ k, k < n → m4.1 109 k = hI (gqS n d a n k)) ∧ Fm (fun o _ => o = 109) m3 m4 := by
    unfold f_NC_quick
    rw [e1, cP_s, e2, cP_s, e3, cP_s, bdE]
    refine quickC (Q := fun r => ∃ m4, r = (cP (f_NC_takeInHand m4) (fun m5 => cP (f_NC_leftInHand m5) (fun v6 => some (v6, m5)))) ∧ (∀ k, k < n → m4.1 109 k = hI (gqS n d a n k)) ∧ Fm (fun o _ => o = 109) m3 m4) i1 C3 L3 (fun j hj => by rw [f3 _ _ (by omega)]; exact q2 j hj) (fun k hk => (a3 k (by omega)).trans (show (-1 : Int32) = hI 16 from rfl)) ?_
    intro m4 a4 f4
    exact ⟨m4, rfl, a4, f4⟩
  obtain ⟨m4, e4, a4, f4⟩ := A
  have f14 : Fm (fun o _ => o = 109 ∨ o = 110) m1 m4 := f13.tr (f4.mo (fun o j q => Or.inl q))
  have j4 : Iv m4 n d a e h H := j1.cls f14 (fun o j w => by omega) (j1.2.2.2.2.2.2.1.fr i1 f14 (by omega) (fun o j _ => by omega)) (j1.2.2.2.2.2.2.2.1.fr f14 (fun o j _ => by omega)) (j1.2.2.2.2.2.2.2.2.fr f14 (fun o j _ => by omega))
  obtain ⟨m5, e5, C5, hc5, l5, p5, q5, f5⟩ := keep7 j4
  have f6 : Fm (fun o _ => o = 17) m5 (cpM m5 109 17 n) := fun o j w => by rw [cpM_1, if_neg (by omega)]
  have r6 : ∀ j, j < n → (cpM m5 109 17 n).1 17 j = hI (gqS n d a n j) := fun j hj => by
    rw [cpM_1, if_pos ⟨rfl, hj⟩, f5 _ _ (by unfold SKC; omega)]
    exact a4 j hj
  have C6 : CC (cpM m5 109 17 n) 10 n d (up7 a (gqS n d a n)) := CC7 C5 f6 r6
  have V6 : VV n d (up7 a (gqS n d a n)) := VV7 i1 (gq_gs n d a n)
  have w6 : Fm SCl m4 (cpM m5 109 17 n) := (f5.mo (fun o j w => by unfold SKC at w; unfold SCl; omega)).tr (f6.mo (fun o j w => by unfold SCl; omega))
  obtain ⟨M6, hm6', m7, e7, hm7, M7, f7⟩ := toM j4 w6
  obtain ⟨m8, e8, q8, f8⟩ := order_ok i1 M7
  have M8 : MM m8 n d a := M7.fr f8 (by omega) (by omega) (fun o j _ _ => by omega)
  have R : ∃ m9, f_Mo_quick (cpM m5 109 17 n) = some (nI (cnt (fun k => decide (gqS n d a n k = 16)) n), m9) ∧ (∀ k, k < n → m9.1 207 k = nI (gqS n d a n k)) ∧ Fm SQ m8 m9 := by
    unfold f_Mo_quick
    rw [bdE, e7, cP_s, e8, cP_s, bdE]
    refine quick17 (Q := fun r => ∃ m9, r = some (nI (cnt (fun k => decide (gqS n d a n k = 16)) n), m9) ∧ (∀ k, k < n → m9.1 207 k = nI (gqS n d a n k)) ∧ Fm SQ m8 m9) i1 M8 (fun m9 M9 f9 => ?_)
    obtain ⟨m10, e10, r10, f10⟩ := quick41 i1 M9 (fun j hj => by rw [f9 _ _ (by omega)]; exact q8 j hj)
    exact ⟨m10, e10, r10, (f9.mo (fun o j q => Or.inr q)).tr f10⟩
  obtain ⟨m9, e9, r9, f9⟩ := R
  refine ⟨nI (cnt (fun k => decide (gqS n d a n k = 16)) n), cpM m5 109 17 n, m9, ?_, e9, ?_⟩
  · rw [e4]
    unfold f_NC_takeInHand
    rw [e5, cP_s, C5.1, ac_n (show n ≤ ln 109 from h24) (show n ≤ ln 17 from h24) (by omega), cP_s, show f_NC_leftInHand (cpM m5 109 17 n) = some (nI (cnt (fun k => decide (gqS n d a n k = 16)) n)) from left_eq V6 C6, cP_s]
  · refine chg7 (S := fun o j => o = 220 ∨ SQ o j) (g := gqS n d a n) j4 (gq_gs n d a n) C5 hc5 l5 p5 q5 f6 r6 hm7 M7 f7 ((f8.mo (fun o j q => Or.inl q)).tr (f9.mo (fun o j q => Or.inr q))) ?_ r9
    intro o j w
    unfold SQ SD at w
    unfold SMq
    omega
