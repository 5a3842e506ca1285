/-! PURE PART, BEST: the class's seats -/
theorem sh_b {x : Int32} {v : Nat} (h : v < 32) : (x >>> (nI v &&& 31)) &&& (1 : Int32) = bI (bb x v) := by
  have t := tst (x := x) h
  cases hb : bb x v with
  | true =>
    rw [hb] at t
    exact (t.symm ▸ rfl : _)
  | false =>
    rw [hb] at t
    rw [pk_and _ (m := 1) 1 (by decide)] at t ⊢
    have h2 := Nat.mod_two_eq_zero_or_one (x >>> (nI v &&& 31)).toBitVec.toNat
    rcases h2 with q | q
    · rw [show (2 : Nat) ^ 1 = 2 from rfl, q]; rfl
    · rw [show (2 : Nat) ^ 1 = 2 from rfl, q] at t
      exact absurd (t.mp rfl) (by decide)
theorem wb16 {a : Ch} {i s : Nat} (h : s < 16) : wbS a i s < 16 := by
  unfold wbS
  split
  · exact (tb_1 s h).2.1
  · exact h
theorem rk16 {a : Ch} {i s : Nat} (h : s < 16) : rkS a i s < 16 := by
  unfold rkS
  split
  · exact (tb_1 s h).2.2.2.1
  · exact h
theorem rkwb {a : Ch} {i v s : Nat} (hv : v < 16) (hs : s < 16) : rkS a i v = s ↔ v = wbS a i s := by
  unfold rkS wbS
  by_cases c : a 1 i = 1
  · rw [if_pos c, if_pos c]
    constructor
    · rintro rfl; exact (tb_1 v hv).2.2.2.2.1.symm
    · rintro rfl; exact (tb_1 s hs).2.2.2.2.2
  · rw [if_neg c, if_neg c]
theorem byRank_ok {m : Me} {n d : Nat} {a : Ch} {k : Nat} {x : Int32} (hV : VV n d a) (hC : CC m 10 n d a) (hk : k < n) :
    ∃ z, z < 65536 ∧ f_Search_byRank (nI k) x m = some (nI z) ∧ ∀ s, s < 16 → z.testBit s = bb x (wbS a k s) := by
  have key : ∃ y, f_Search_byRank (nI k) x m = some y ∧ (∀ s, s < 16 → bb y s = bb x (wbS a k s)) ∧ ∀ s, 16 ≤ s → bb y s = false := by
    unfold f_Search_byRank
    refine up aV 16 (fun v y => (∀ s, s < 16 → bb y s = (decide (wbS a k s < v) && bb x (wbS a k s))) ∧ ∀ s, 16 ≤ s → bb y s = false) (fun r => ∃ y, r = some y ∧ (∀ s, s < 16 → bb y s = bb x (wbS a k s)) ∧ ∀ s, 16 ≤ s → bb y s = false) 0 0 (by omega) (by unfold FU; omega) ⟨fun s _ => by rw [bb_0]; simp, fun s _ => bb_0 s⟩ ?_ ?_
    · rintro f v y hv ⟨h1, h2⟩ ih
      show ∃ y', lb_Search_byRank_5 (nI k) x m f y (nI v) = some y' ∧ _
      unfold lb_Search_byRank_5
      have r16 := rk16 (a := a) (i := k) hv
      rw [if_neg (show ¬ (16 : Int32) ≤ nI v from nI_ge (b := 16) hv (by decide)), rk_eq hV hC hk hv, cP_s, sh_b (by omega), bdE, bdE, nI_1]
      have eb : ∀ s, bb (bI (bb x v) <<< (nI (rkS a k v) &&& 31)) s = (bb x v && decide (rkS a k v = s)) := by
        intro s
        cases bb x v with
        | true =>
          rw [show bI true = (1 : Int32) from rfl, bb_shl1 (by omega)]
          rfl
        | false =>
          rw [show bI false = nI 0 from rfl, pk_shlN (n := 0) _ _ (smod32 (show rkS a k v < 32 by omega)) (by omega), Nat.zero_mul]
          exact bb_0 s
      refine ih _ ⟨fun s hs => ?_, fun s hs => ?_⟩
      · rw [bb_or, h1 s hs, eb]
        by_cases e : v = wbS a k s
        · have := (rkwb (a := a) (i := k) hv hs).mpr e
          simp [← e, this]
        · have ne : ¬ rkS a k v = s := fun w => e ((rkwb hv hs).mp w)
          by_cases c : wbS a k s < v
          · simp [ne, c, show wbS a k s < v + 1 by omega]
          · simp [ne, c, show ¬ wbS a k s < v + 1 by omega]
      · rw [bb_or, h2 s hs, eb]
        simp
        intro _
        omega
    · rintro f y ⟨h1, h2⟩
      show ∃ y', lb_Search_byRank_5 (nI k) x m f y (nI 16) = some y' ∧ _
      unfold lb_Search_byRank_5
      rw [if_pos (show (16 : Int32) ≤ nI 16 by decide)]
      refine ⟨y, rfl, fun s hs => ?_, h2⟩
      rw [h1 s hs]
      simp [wb16 (a := a) (i := k) hs]
  obtain ⟨y, e, h1, h2⟩ := key
  obtain ⟨z, hz, rfl⟩ := bits16 h2
  exact ⟨z, hz, e, fun s hs => by rw [← bb_nI (show z < 2 ^ 32 by omega)]; exact h1 s hs⟩
theorem Fm.eq1 {S : Nat → Nat → Prop} {m m' : Me} (h : m'.1 = m.1) : Fm S m m' := fun o j _ => by rw [h]
set_option maxHeartbeats 1000000 in
theorem gb_ok {m : Me} {n d : Nat} {a : Ch} {K i w p : Nat} {M : Nat → Nat} (hV : VV n d a) (hC : CC m 10 n d a) (hL : LK m n d a) (hK : K ≤ 7) (hM : ∀ j, j < K → m.1 100 j = nI (M j) ∧ M j < n) (h5 : m.1 9 5 = nI K) (hi : i < K) (hw : w < waysS a (M i)) (hp : p < 119) :
    ∃ m', f_Search_gatherBans (nI i) (nI w) (nI p) m = some m' ∧ m'.1 = m.1 ∧ (∀ o j, ¬ ((o = 103 ∨ o = 104) ∧ j = p) → m'.2 o j = m.2 o j) ∧ ∀ j s, j < 8 → s < 16 → av (m'.2 103 p) (m'.2 104 p) j s = (av (m.2 103 p) (m.2 104 p) j s || (decide (j < K) && (decide (j ≠ i) && (owB n d a (M j) (wbS a (M j) s) && clB a (M i) w (M j) (wbS a (M j) s) 0)))) := by
  unfold f_Search_gatherBans
  refine up aM K (fun jj m' => m'.1 = m.1 ∧ (∀ o j, ¬ ((o = 103 ∨ o = 104) ∧ j = p) → m'.2 o j = m.2 o j) ∧ ∀ j s, j < 8 → s < 16 → av (m'.2 103 p) (m'.2 104 p) j s = (av (m.2 103 p) (m.2 104 p) j s || (decide (j < jj) && (decide (j ≠ i) && (owB n d a (M j) (wbS a (M j) s) && clB a (M i) w (M j) (wbS a (M j) s) 0))))) (fun r => ∃ m' : Me, r = some m' ∧ m'.1 = m.1 ∧ (∀ o j, ¬ ((o = 103 ∨ o = 104) ∧ j = p) → m'.2 o j = m.2 o j) ∧ ∀ j s, j < 8 → s < 16 → av (m'.2 103 p) (m'.2 104 p) j s = (av (m.2 103 p) (m.2 104 p) j s || (decide (j < K) && (decide (j ≠ i) && (owB n d a (M j) (wbS a (M j) s) && clB a (M i) w (M j) (wbS a (M j) s) 0))))) 0 m (by omega) (by unfold FU; omega) ⟨rfl, fun _ _ _ => rfl, fun j s _ _ => by simp⟩ ?_ ?_
  · rintro f jj m1 hj ⟨q1, q2, q3⟩ ih
    show ∃ m', lb_Search_gatherBans_3 (nI i) (nI w) (nI p) f (nI jj) m1 = some m' ∧ _
    unfold lb_Search_gatherBans_3
    have C1 : CC m1 10 n d a := hC.fr (S := fun _ _ => False) (Fm.eq1 q1) (fun _ _ _ _ w => w)
    have L1 : LK m1 n d a := hL.fr hV (S := fun _ _ => False) (Fm.eq1 q1) (fun _ _ _ w => w)
    obtain ⟨mi1, mi2⟩ := hM i hi
    obtain ⟨mj1, mj2⟩ := hM jj hj
    rw [q1, h5, if_neg (nI_ge hj (by omega))]
    simp only [bd, nI_1, show ln 100 = 7 from rfl, rd_n (show i < 7 by omega) (show 7 < 2 ^ 31 by decide), rd_n (show jj < 7 by omega) (show 7 < 2 ^ 31 by decide), mi1, mj1, near_eq hV C1 mi2 mj2, cP_s, bI_z]
    have nx : ∀ m2 : Me, m2.1 = m.1 → (∀ o j, ¬ ((o = 103 ∨ o = 104) ∧ j = p) → m2.2 o j = m.2 o j) → (∀ j s, j < 8 → s < 16 → av (m2.2 103 p) (m2.2 104 p) j s = (av (m1.2 103 p) (m1.2 104 p) j s || (decide (j = jj) && (decide (j ≠ i) && (owB n d a (M j) (wbS a (M j) s) && clB a (M i) w (M j) (wbS a (M j) s) 0))))) → ∃ m', f (nI (jj + 1)) m2 = some m' ∧ m'.1 = m.1 ∧ (∀ o j, ¬ ((o = 103 ∨ o = 104) ∧ j = p) → m'.2 o j = m.2 o j) ∧ ∀ j s, j < 8 → s < 16 → av (m'.2 103 p) (m'.2 104 p) j s = (av (m.2 103 p) (m.2 104 p) j s || (decide (j < K) && (decide (j ≠ i) && (owB n d a (M j) (wbS a (M j) s) && clB a (M i) w (M j) (wbS a (M j) s) 0)))) := by
      intro m2 t1 t2 t3
      refine ih m2 ⟨t1, t2, fun j s hj8 hs => ?_⟩
      rw [t3 j s hj8 hs, q3 j s hj8 hs]
      generalize (decide (j ≠ i) && (owB n d a (M j) (wbS a (M j) s) && clB a (M i) w (M j) (wbS a (M j) s) 0)) = b
      by_cases e : j = jj
      · subst e; simp
      · by_cases c : j < jj
        · simp [e, c, show j < jj + 1 by omega]
        · simp [e, c, show ¬ j < jj + 1 by omega]
    by_cases e : jj = i
    · subst e
      rw [if_pos rfl]
      exact nx m1 q1 q2 (fun j s _ _ => by by_cases e2 : j = jj <;> simp [e2])
    · rw [if_neg (nI_ne (by omega) (by omega) e)]
      cases hn : neB a (M i) (M jj) with
      | false =>
        rw [if_pos rfl]
        refine nx m1 q1 q2 (fun j s _ _ => ?_)
        have : (decide (j = jj) && (decide (j ≠ i) && (owB n d a (M j) (wbS a (M j) s) && clB a (M i) w (M j) (wbS a (M j) s) 0))) = false := by
          by_cases e2 : j = jj
          · subst e2
            cases ho : owB n d a (M j) (wbS a (M j) s)
            · simp
            · cases hc : clB a (M i) w (M j) (wbS a (M j) s) 0
              · simp
              · have := near_of (hV.2.2.1 _ mi2).1 (hV.2.2.1 _ mj2).1 hw (ow_lt ho) hc
                rw [hn] at this
                cases this
          · simp [e2]
        rw [this, Bool.or_false]
      | true =>
        rw [if_neg (by decide)]
        obtain ⟨x, ex, hx⟩ := openHits_eq hV L1 mi2 mj2 hw
        obtain ⟨z, hz, ez, tz'⟩ := byRank_ok (x := x) hV C1 mj2
        obtain ⟨F, B, -, eF, eB, hav⟩ := front_eq (i := jj) (n := z) (m := m) (by omega)
        rw [ex, cP_s, ez, cP_s, show ln 103 = 119 from rfl, rd_n hp (by decide), eF, cP_s, wl_n hp (by decide), show ln 104 = 119 from rfl, rd_n hp (by decide), eB, cP_s, wl_n hp (by decide)]
        refine nx _ q1 (fun o j hne => ?_) (fun j s hj8 hs => ?_)
        · rw [sl2, if_neg (by omega), sl2, if_neg (by omega)]
          exact q2 o j hne
        · have a1 : (sl (sl m1 103 p (m1.2 103 p ||| F)) 104 p ((sl m1 103 p (m1.2 103 p ||| F)).2 104 p ||| B)).2 103 p = m1.2 103 p ||| F := by
            rw [sl2, if_neg (by omega), sl2, if_pos ⟨rfl, rfl⟩]
          have a2 : (sl (sl m1 103 p (m1.2 103 p ||| F)) 104 p ((sl m1 103 p (m1.2 103 p ||| F)).2 104 p ||| B)).2 104 p = m1.2 104 p ||| B := by
            rw [sl2, if_pos ⟨rfl, rfl⟩, sl2, if_neg (by omega)]
          rw [a1, a2, av_or, hav j s hz hj8 hs]
          by_cases e2 : j = jj
          · subst e2
            rw [tz' s hs, hx]
            simp [e]
          · simp [e2]
  · rintro f m1 ⟨q1, q2, q3⟩
    show ∃ m', lb_Search_gatherBans_3 (nI i) (nI w) (nI p) f (nI K) m1 = some m' ∧ _
    unfold lb_Search_gatherBans_3
    rw [q1, h5, if_pos (nI_le (Nat.le_refl _) (by omega))]
    exact ⟨m1, rfl, q1, q2, q3⟩
