/-! PURE PART, BEST: options, seats -/
noncomputable def obS (n d : Nat) (a : Ch) (M : Nat → Nat) (i s : Nat) : Bool := owB n d a (M i) (wbS a (M i) s)
noncomputable def gnS (n d : Nat) (a : Ch) (M : Nat → Nat) (i r : Nat) : Nat := if r < 16 ∧ obS n d a M i r = true then gaS a (M i) (wbS a (M i) r) else 0
noncomputable def bnS (n d : Nat) (a : Ch) (M : Nat → Nat) (K i r j s : Nat) : Bool := decide (j = i) || (decide (r < 16) && (obS n d a M i r && (decide (j < K) && (decide (j ≠ i) && (obS n d a M j s && clB a (M i) (wbS a (M i) r) (M j) (wbS a (M j) s) 0)))))
def muS (a : Ch) (M : Nat → Nat) (i : Nat) : Bool := decide (a 1 (M i) = 3)
def S102 (o : Nat) (_ : Nat) : Prop := o = 102
theorem allbits {s : Nat} (h : s < 16) : (65535 : Nat).testBit s = true := by
  rw [show (65535 : Nat) = 2 ^ 16 - 1 from rfl, Nat.testBit_two_pow_sub_one]
  simp [h]
set_option maxHeartbeats 2000000 in
theorem opt_row {m : Me} {n d : Nat} {a : Ch} {K i : Nat} {M : Nat → Nat} {x : Int32} {f : Int32 → Me → Option Me} {Q : Option Me → Prop} {r : Nat} (hV : VV n d a) (hC : CC m 10 n d a) (hL : LK m n d a) (hK : K ≤ 7) (hM : ∀ j, j < K → m.1 100 j = nI (M j) ∧ M j < n) (h5 : m.1 9 5 = nI K) (hi : i < K) (hx : ∀ s, s < 17 → bb x s = (decide (s < 16) && obS n d a M i s)) (hr : r < 17)
    (hQ : ∀ m' : Me, Fm S102 m m' → (∀ j, j ≠ i * 17 + r → m'.1 102 j = m.1 102 j) → (∀ o j, ¬ ((o = 103 ∨ o = 104) ∧ j = i * 17 + r) → m'.2 o j = m.2 o j) → m'.1 102 (i * 17 + r) = nI (gnS n d a M i r) → (∀ j s, j < 8 → s < 16 → av (m'.2 103 (i * 17 + r)) (m'.2 104 (i * 17 + r)) j s = bnS n d a M K i r j s) → Q (f (nI (r + 1)) m')) :
    Q (lb_Search_gatherOptions_56 (nI i) (nI (M i)) x f (nI r) m) := by
  unfold lb_Search_gatherOptions_56
  obtain ⟨F, B, -, eF, eB, hav⟩ := front_eq (i := i) (n := 65535) (m := m) (by omega)
  have eF' : ∀ m', f_Search_inFront (nI i) (65535 : Int32) m' = some F := eF
  have eB' : ∀ m', f_Search_inBack (nI i) (65535 : Int32) m' = some B := eB
  have hp : i * 17 + r < 119 := by omega
  obtain ⟨mi1, mi2⟩ := hM i hi
  rw [if_neg (show ¬ (17 : Int32) ≤ nI r from nI_ge (b := 17) hr (by decide)), bdE, show nI i * (17 : Int32) = nI (i * 17) from pk_mul i 17, nI_add, show ln 102 = 119 from rfl, show ln 103 = 119 from rfl, show ln 104 = 119 from rfl, wi_n hp (by decide), eF', cP_s, wl_n hp (by decide), eB', cP_s, wl_n hp (by decide), bdE]
  generalize hm3 : sl (sl (si m 102 (i * 17 + r) 0) 103 (i * 17 + r) F) 104 (i * 17 + r) B = m3
  have i3 : m3.1 = (si m 102 (i * 17 + r) 0).1 := by rw [← hm3]; rfl
  have f3 : Fm S102 m m3 := fun o j w => by rw [i3, si1, if_neg (fun z => w z.1)]
  have l3 : ∀ o j, ¬ ((o = 103 ∨ o = 104) ∧ j = i * 17 + r) → m3.2 o j = m.2 o j := fun o j w => by
    rw [← hm3, sl2, if_neg (by omega), sl2, if_neg (by omega)]; rfl
  have a3 : ∀ j s, j < 8 → s < 16 → av (m3.2 103 (i * 17 + r)) (m3.2 104 (i * 17 + r)) j s = decide (j = i) := fun j s hj hs => by
    have b1 : m3.2 103 (i * 17 + r) = F := by rw [← hm3, sl2, if_neg (by omega), sl2, if_pos ⟨rfl, rfl⟩]
    have b2 : m3.2 104 (i * 17 + r) = B := by rw [← hm3, sl2, if_pos ⟨rfl, rfl⟩]
    rw [b1, b2, hav j s (by decide) hj hs, allbits hs, Bool.and_true]
  have C3 : CC m3 10 n d a := hC.fr f3 (fun o j _ _ => by unfold S102; omega)
  have L3 : LK m3 n d a := hL.fr hV f3 (fun o j _ => by unfold S102; omega)
  simp only [tst (show r < 32 by omega)]
  have hxr := hx r hr
  by_cases c : bb x r = true
  · rw [if_pos c]
    rw [c] at hxr
    have r16 : r < 16 := by
      by_cases w : r < 16
      · exact w
      · simp [w] at hxr
    have ob : obS n d a M i r = true := by
      rw [decide_eq_true r16, Bool.true_and] at hxr
      exact hxr.symm
    have wl := ow_lt ob
    have w16 := wb16 (a := a) (i := M i) r16
    rw [wb_eq hV C3 mi2 r16, cP_s, gain_eq hV C3 mi2 w16, cP_s, wi_n hp (by decide)]
    generalize hm4 : si m3 102 (i * 17 + r) (nI (gaS a (M i) (wbS a (M i) r))) = m4
    have f4 : Fm S102 m m4 := by rw [← hm4]; exact f3.wr' rfl
    obtain ⟨m5, e5, q1, q2, q3⟩ := gb_ok (m := m4) (p := i * 17 + r) hV (hC.fr f4 (fun o j _ _ => by unfold S102; omega)) (hL.fr hV f4 (fun o j _ => by unfold S102; omega)) hK (fun j hj => by rw [f4 _ _ (by unfold S102; omega)]; exact hM j hj) (by rw [f4 _ _ (by unfold S102; omega)]; exact h5) hi wl hp
    rw [e5, cP_s, bdE, nI_1]
    refine hQ m5 (fun o j w => by rw [q1]; exact f4 o j w) (fun j hj => ?_) (fun o j w => ?_) ?_ (fun j s hj hs => ?_)
    · rw [q1, ← hm4, si1, if_neg (by omega), i3, si1, if_neg (by omega)]
    · rw [q2 o j w, ← hm4]; exact l3 o j w
    · rw [q1, ← hm4, si_s]
      unfold gnS
      rw [if_pos ⟨r16, ob⟩]
    · rw [q3 j s hj hs, show m4.2 = m3.2 by rw [← hm4]; rfl, a3 j s hj hs]
      unfold bnS
      rw [decide_eq_true r16, ob, Bool.true_and, Bool.true_and]
      rfl
  · rw [if_neg c, bdE, nI_1]
    have hf : bb x r = false := by simpa using c
    rw [hf] at hxr
    refine hQ m3 f3 (fun j hj => by rw [i3, si1, if_neg (by omega)]) l3 ?_ (fun j s hj hs => ?_)
    · rw [i3, si_s]
      unfold gnS
      rw [if_neg]
      · rfl
      · rintro ⟨w1, w2⟩
        rw [decide_eq_true w1, w2] at hxr
        cases hxr
    · rw [a3 j s hj hs]
      unfold bnS
      have : (decide (r < 16) && (obS n d a M i r && (decide (j < K) && (decide (j ≠ i) && (obS n d a M j s && clB a (M i) (wbS a (M i) r) (M j) (wbS a (M j) s) 0))))) = false := by
        rw [← Bool.and_assoc, ← hxr]
        rfl
      rw [this, Bool.or_false]
def RowOk (m : Me) (n d : Nat) (a : Ch) (M : Nat → Nat) (K i : Nat) : Prop := (∀ r, r < 17 → m.1 102 (i * 17 + r) = nI (gnS n d a M i r)) ∧ ∀ r j s, r < 17 → j < 8 → s < 16 → av (m.2 103 (i * 17 + r)) (m.2 104 (i * 17 + r)) j s = bnS n d a M K i r j s
set_option maxHeartbeats 1000000 in
theorem opts_ok {m : Me} {n d : Nat} {a : Ch} {K i : Nat} {M : Nat → Nat} (hV : VV n d a) (hC : CC m 10 n d a) (hL : LK m n d a) (hK : K ≤ 7) (hM : ∀ j, j < K → m.1 100 j = nI (M j) ∧ M j < n) (h5 : m.1 9 5 = nI K) (hi : i < K) (hR : ∀ j, j < i → RowOk m n d a M K j) (hO : ∀ j s, j < 8 → s < 16 → av (m.2 9 6) (m.2 9 7) j s = (decide (j < i) && obS n d a M j s)) :
    ∃ m' : Me, f_Search_gatherOptions (nI i) m = some m' ∧ Fm S102 m m' ∧ (∀ j, j < i + 1 → RowOk m' n d a M K j) ∧ ∀ j s, j < 8 → s < 16 → av (m'.2 9 6) (m'.2 9 7) j s = (decide (j < i + 1) && obS n d a M j s) := by
  unfold f_Search_gatherOptions
  obtain ⟨mi1, mi2⟩ := hM i hi
  have h24 := hV.1
  obtain ⟨z, hz, ez, tz'⟩ := byRank_ok (x := m.1 5 (M i)) hV hC mi2
  obtain ⟨F, B, -, eF, eB, hav⟩ := front_eq (i := i) (n := z) (m := m) (by omega)
  have obz : ∀ s, s < 16 → z.testBit s = obS n d a M i s := fun s hs => by
    rw [tz' s hs, (hL _ mi2).2]
    rfl
  rw [show ln 100 = 7 from rfl, rd_n (by omega) (by omega), mi1, show ln 5 = 24 from rfl, rd_n (by omega) (by omega), ez, cP_s, eF, cP_s, bdE, eB, cP_s, bdE]
  generalize hm7 : sl (sl m 9 6 (m.2 9 6 ||| F)) 9 7 ((sl m 9 6 (m.2 9 6 ||| F)).2 9 7 ||| B) = m7
  have i7 : m7.1 = m.1 := by rw [← hm7]; rfl
  have l7 : ∀ o j, o ≠ 9 → m7.2 o j = m.2 o j := fun o j w => by rw [← hm7, sl2, if_neg (by omega), sl2, if_neg (by omega)]
  have o7 : ∀ j s, j < 8 → s < 16 → av (m7.2 9 6) (m7.2 9 7) j s = (decide (j < i + 1) && obS n d a M j s) := fun j s hj hs => by
    have b1 : m7.2 9 6 = m.2 9 6 ||| F := by rw [← hm7, sl2, if_neg (by omega), sl2, if_pos ⟨rfl, rfl⟩]
    have b2 : m7.2 9 7 = m.2 9 7 ||| B := by rw [← hm7, sl2, if_pos ⟨rfl, rfl⟩, sl2, if_neg (by omega)]
    rw [b1, b2, av_or, hO j s hj hs, hav j s hz hj hs, obz s hs]
    by_cases e : j = i
    · subst e; simp
    · by_cases c : j < i
      · simp [e, c, show j < i + 1 by omega]
      · simp [e, c, show ¬ j < i + 1 by omega]
  have C7 : ∀ m', Fm S102 m m' → CC m' 10 n d a := fun m' f => hC.fr f (fun o j _ _ => by unfold S102; omega)
  have L7 : ∀ m', Fm S102 m m' → LK m' n d a := fun m' f => hL.fr hV f (fun o j _ => by unfold S102; omega)
  have hx : ∀ s, s < 17 → bb (nI z) s = (decide (s < 16) && obS n d a M i s) := fun s hs => by
    rw [bb_nI (by omega)]
    by_cases c : s < 16
    · rw [obz s c]; simp [c]
    · rw [Nat.testBit_lt_two_pow (Nat.lt_of_lt_of_le hz (Nat.pow_le_pow_right (n := 2) (by decide) (show 16 ≤ s by omega)))]
      simp [c]
  refine up aM 17 (fun r m' => Fm S102 m m' ∧ (∀ j, (∀ k, k < r → j ≠ i * 17 + k) → m'.1 102 j = m.1 102 j) ∧ (∀ o j, (∀ k, k < r → ¬ ((o = 103 ∨ o = 104) ∧ j = i * 17 + k)) → m'.2 o j = m7.2 o j) ∧ (∀ k, k < r → m'.1 102 (i * 17 + k) = nI (gnS n d a M i k)) ∧ ∀ k j s, k < r → j < 8 → s < 16 → av (m'.2 103 (i * 17 + k)) (m'.2 104 (i * 17 + k)) j s = bnS n d a M K i k j s) (fun r => ∃ m' : Me, r = some m' ∧ Fm S102 m m' ∧ (∀ j, j < i + 1 → RowOk m' n d a M K j) ∧ ∀ j s, j < 8 → s < 16 → av (m'.2 9 6) (m'.2 9 7) j s = (decide (j < i + 1) && obS n d a M j s)) 0 m7 (by omega) (by unfold FU; omega) ⟨Fm.eq1 i7, fun j _ => by rw [i7], fun o j _ => rfl, fun k hk => by omega, fun k j s hk => by omega⟩ ?_ ?_
  · rintro f r m1 hr ⟨p1, p2, p3, p4, p5⟩ ih
    show ∃ m' : Me, lb_Search_gatherOptions_56 (nI i) (nI (M i)) (nI z) f (nI r) m1 = some m' ∧ _
    refine opt_row (K := K) (Q := fun r => ∃ m' : Me, r = some m' ∧ Fm S102 m m' ∧ (∀ j, j < i + 1 → RowOk m' n d a M K j) ∧ ∀ j s, j < 8 → s < 16 → av (m'.2 9 6) (m'.2 9 7) j s = (decide (j < i + 1) && obS n d a M j s)) hV (C7 m1 p1) (L7 m1 p1) hK (fun j hj => by rw [p1 _ _ (by unfold S102; omega)]; exact hM j hj) (by rw [p1 _ _ (by unfold S102; omega)]; exact h5) hi hx hr ?_
    intro m2 t1 t2 t3 t4 t5
    refine ih m2 ⟨p1.tr t1, fun j hj => ?_, fun o j hne => ?_, fun k hk => ?_, fun k j s hk hj hs => ?_⟩
    · rw [t2 j (hj r (by omega)), p2 j (fun k hk => hj k (by omega))]
    · rw [t3 o j (hne r (by omega)), p3 o j (fun k hk => hne k (by omega))]
    · by_cases e : k = r
      · subst e; exact t4
      · rw [t2 _ (by omega)]; exact p4 k (by omega)
    · by_cases e : k = r
      · subst e; exact t5 j s hj hs
      · rw [t3 _ _ (by omega), t3 _ _ (by omega)]; exact p5 k j s (by omega) hj hs
  · rintro f m1 ⟨p1, p2, p3, p4, p5⟩
    show ∃ m' : Me, lb_Search_gatherOptions_56 (nI i) (nI (M i)) (nI z) f (nI 17) m1 = some m' ∧ _
    unfold lb_Search_gatherOptions_56
    rw [if_pos (show (17 : Int32) ≤ nI 17 by decide)]
    refine ⟨m1, rfl, p1, fun j hj => ?_, fun j s hj hs => ?_⟩
    · by_cases e : j = i
      · subst e; exact ⟨p4, fun r k s hr => p5 r k s hr⟩
      · obtain ⟨r1, r2⟩ := hR j (by omega)
        refine ⟨fun r hr => ?_, fun r k s hr hk hs => ?_⟩
        · rw [p2 _ (fun k hk => by omega)]; exact r1 r hr
        · rw [p3 _ _ (fun k hk => by omega), p3 _ _ (fun k hk => by omega), l7 _ _ (by omega), l7 _ _ (by omega)]; exact r2 r k s hr hk hs
    · rw [p3 _ _ (fun k hk => by omega), p3 _ _ (fun k hk => by omega)]
      exact o7 j s hj hs
