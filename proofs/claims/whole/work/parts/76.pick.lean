/-! PURE PART, BEST: the class settles name after name -/
theorem vl_upd {gain : Nat → Nat → Nat} {q i0 i r : Nat} {c : Nat → Nat} (h1 : i0 ≤ i) (h2 : i < i0 + q) : vlr gain q i0 (fun j => if j = i then r else c j) + gain i (c i) = vlr gain q i0 c + gain i r := by
  induction q generalizing i0 with
  | zero => omega
  | succ q ih =>
    show gain i0 (if i0 = i then r else c i0) + vlr gain q (i0 + 1) (fun j => if j = i then r else c j) + gain i (c i) = gain i0 (c i0) + vlr gain q (i0 + 1) c + gain i r
    by_cases e : i0 = i
    · subst e
      rw [if_pos rfl, vl_cg (c := fun j => if j = i0 then r else c j) (c' := c) (fun j j1 j2 => if_neg (by omega))]
      omega
    · rw [if_neg e]
      have := ih (i0 := i0 + 1) (by omega) (by omega)
      omega
/-- what holds of the options of a part -/
def PO (K : Nat) (must : Nat → Bool) (gain : Nat → Nat → Nat) (ban : Nat → Nat → Nat → Nat → Bool) (Ob : Nat → Nat → Bool) : Prop :=
  GM Ob gain ∧ (∀ i r, i < K → r < 16 → Ob i r = true → 0 < gain i r) ∧ (∀ i r s, i < K → s < 16 → ban i r i s = true) ∧ (∀ i j s, i < K → j < K → i ≠ j → ban i 16 j s = false) ∧ ∀ i r j s, i < K → j < K → i ≠ j → r < 16 → s < 16 → Ob i r = true → Ob j s = true → ban i r j s = ban j s i r
def A1s (A : Nat → Nat → Bool) (ban : Nat → Nat → Nat → Nat → Bool) (i r : Nat) : Nat → Nat → Bool := fun j s => (A j s && !(ban i r j s)) || (decide (j = i) && decide (s = r))
theorem us_16 {must : Nat → Bool} {A A' : Nat → Nat → Bool} {i r : Nat} (h : ¬ r < 16) : usA must A i r = usA must A' i r := by
  unfold usA
  rw [if_neg h, if_neg h]
theorem us_lt {must : Nat → Bool} {A : Nat → Nat → Bool} {i r : Nat} (h : r < 16) : usA must A i r = A i r := by
  unfold usA
  rw [if_pos h]
theorem fix1 {K : Nat} {must : Nat → Bool} {gain : Nat → Nat → Nat} {ban : Nat → Nat → Nat → Nat → Bool} {Ob A : Nat → Nat → Bool} {i r W : Nat} {c : Nat → Nat} (hP : PO K must gain ban Ob) (hA : InO K A Ob) (hi : i < K) (hr : r < 16) (hAi : A i r = true) (hmax : ∀ c, CPr must ban K 0 Ob c → vlr gain K 0 c ≤ W) (hc : CPr must ban K 0 (A1s A ban i r) c) (hv : W ≤ vlr gain K 0 c) : c i = r ∧ CPr must ban K 0 A c := by
  obtain ⟨⟨g1, g2, g3⟩, p1, p2, p3, p4⟩ := hP
  obtain ⟨h1, h2⟩ := CP_flat.mp hc
  have oi : Ob i r = true := hA i r hi hr hAi
  have a1 : ∀ t, t < K → t ≠ i → c t < 16 → A t (c t) = true ∧ ban i r t (c t) = false := by
    intro t ht hne hl
    have := h1 t (by omega) (by omega)
    rw [us_lt hl] at this
    unfold A1s at this
    simp [hne] at this
    exact this
  have usO : ∀ t, t < K → t ≠ i → usA must Ob t (c t) = true := by
    intro t ht hne
    by_cases hl : c t < 16
    · rw [us_lt hl]; exact hA t _ ht hl (a1 t ht hne hl).1
    · rw [us_16 (A' := A1s A ban i r) hl]; exact h1 t (by omega) (by omega)
  have ci : c i = r := by
    have u := h1 i (by omega) (by omega)
    have le := us_le u
    by_cases hl : c i < 16
    · rw [us_lt hl] at u
      unfold A1s at u
      rw [p2 i r (c i) hi hl] at u
      simp at u
      exact u
    · exfalso
      have c16 : c i = 16 := by omega
      have hc' : CPr must ban K 0 Ob (fun j => if j = i then r else c j) := by
        refine CP_flat.mpr ⟨fun t _ ht => ?_, fun j k _ jk hk hl' => ?_⟩
        · show usA must Ob t (if t = i then r else c t) = true
          by_cases e : t = i
          · subst e; rw [if_pos rfl, us_lt hr]; exact oi
          · rw [if_neg e]; exact usO t (by omega) e
        · show ban j (if j = i then r else c j) k (if k = i then r else c k) = false
          have hl' : (if k = i then r else c k) < 16 := hl'
          by_cases e : j = i
          · subst e
            rw [if_neg (by omega)] at hl'
            rw [if_pos rfl, if_neg (by omega)]
            exact (a1 k (by omega) (by omega) hl').2
          · rw [if_neg e]
            by_cases e2 : k = i
            · subst e2
              rw [if_pos rfl]
              by_cases cl : c j < 16
              · have w := a1 j (by omega) e cl
                rw [p4 j (c j) k r (by omega) (by omega) e cl hr (hA j _ (by omega) cl w.1) oi]
                exact w.2
              · have u2 := us_le (h1 j (by omega) (by omega))
                rw [show c j = 16 by omega]
                exact p3 j k r (by omega) (by omega) e
            · rw [if_neg e2]
              rw [if_neg e2] at hl'
              exact h2 j k (by omega) jk (by omega) hl'
      have m1 := hmax _ hc'
      have m2 := vl_upd (gain := gain) (q := K) (i0 := 0) (i := i) (r := r) (c := c) (by omega) (by omega)
      rw [c16, g2] at m2
      have := p1 i r hi hr oi
      omega
  refine ⟨ci, CP_flat.mpr ⟨fun t _ ht => ?_, h2⟩⟩
  by_cases e : t = i
  · subst e; rw [ci, us_lt hr]; exact hAi
  · by_cases hl : c t < 16
    · rw [us_lt hl]; exact (a1 t (by omega) e hl).1
    · rw [us_16 (A' := A1s A ban i r) hl]; exact h1 t (by omega) (by omega)
theorem fix2 {K : Nat} {must : Nat → Bool} {gain : Nat → Nat → Nat} {ban : Nat → Nat → Nat → Nat → Bool} {Ob A : Nat → Nat → Bool} {i r : Nat} {c : Nat → Nat} (hP : PO K must gain ban Ob) (hA : InO K A Ob) (hi : i < K) (hr : r < 16) (hc : CPr must ban K 0 A c) (ci : c i = r) : CPr must ban K 0 (A1s A ban i r) c := by
  obtain ⟨⟨g1, g2, g3⟩, p1, p2, p3, p4⟩ := hP
  obtain ⟨h1, h2⟩ := CP_flat.mp hc
  have ui := h1 i (by omega) (by omega)
  rw [ci, us_lt hr] at ui
  refine CP_flat.mpr ⟨fun t _ ht => ?_, h2⟩
  by_cases e : t = i
  · subst e
    rw [ci, us_lt hr]
    unfold A1s
    simp
  · by_cases hl : c t < 16
    · have u := h1 t (by omega) (by omega)
      rw [us_lt hl] at u ⊢
      have bn : ban i r t (c t) = false := by
        rcases Nat.lt_or_ge i t with q | q
        · have := h2 i t (by omega) q (by omega) hl
          rw [ci] at this
          exact this
        · have := h2 t i (by omega) (by omega) (by omega) (by rw [ci]; exact hr)
          rw [ci] at this
          rw [p4 i r t (c t) hi (by omega) (fun z => e z.symm) hr hl (hA i r hi hr ui) (hA t _ (by omega) hl u)]
          exact this
      unfold A1s
      rw [u, bn]
      rfl
    · rw [us_16 (A' := A) hl]; exact h1 t (by omega) (by omega)
def S67 (o : Nat) (j : Nat) : Prop := o = 9 ∧ (j = 6 ∨ j = 7)
def LF (m m' : Me) : Prop := ∀ o j, ¬ (o = 9 ∧ (j = 6 ∨ j = 7)) → m'.2 o j = m.2 o j
theorem fixIf_ok {m : Me} {K : Nat} {must : Nat → Bool} {gain : Nat → Nat → Nat} {ban : Nat → Nat → Nat → Nat → Bool} {Ob : Nat → Nat → Bool} {i r W : Nat} (hS : SRm m K must gain ban) (hP : PO K must gain ban Ob) (hA : InO K (av (m.2 9 6) (m.2 9 7)) Ob) (hi : i < K) (hr : r < 16) (hAi : av (m.2 9 6) (m.2 9 7) i r = true) (hW : W ≤ 1400000) :
    ∃ (b : Bool) (m' : Me), f_Search_fixIfReaching (nI i) (nI r) (nI W) m = some (bI b, m') ∧ Fm S98 m m' ∧ LF m m' ∧
      (b = true → (∃ c, CPr must ban K 0 (A1s (av (m.2 9 6) (m.2 9 7)) ban i r) c ∧ W ≤ vlr gain K 0 c) ∧ ∀ j s, j < 8 → s < 16 → av (m'.2 9 6) (m'.2 9 7) j s = A1s (av (m.2 9 6) (m.2 9 7)) ban i r j s) ∧
      (b = false → (∀ c, CPr must ban K 0 (A1s (av (m.2 9 6) (m.2 9 7)) ban i r) c → vlr gain K 0 c < W) ∧ m'.2 = m.2) := by
  have k7 := hS.1
  unfold f_Search_fixIfReaching
  obtain ⟨F, B, -, eF, eB, hav⟩ := front_eq (i := i) (n := 2 ^ r) (m := m) (by omega)
  have p16 : 2 ^ r < 65536 := Nat.pow_lt_pow_right (m := r) (n := 16) (a := 2) (by decide) hr
  have hp : i * 17 + r < 119 := by omega
  rw [bdE, show nI i * (17 : Int32) = nI (i * 17) from pk_mul i 17, nI_add, show ln 103 = 119 from rfl, show ln 104 = 119 from rfl, rd_n hp (by decide), shl1 (by omega), eF, cP_s, bdE, rd_n hp (by decide), eB, cP_s, bdE, bdE, bdE]
  generalize hF : (m.2 9 6 &&& (m.2 103 (i * 17 + r) ^^^ (-1 : Int64)) ||| F) = F1
  generalize hB : (m.2 9 7 &&& (m.2 104 (i * 17 + r) ^^^ (-1 : Int64)) ||| B) = B1
  have eA : ∀ j s, j < 8 → s < 16 → av F1 B1 j s = A1s (av (m.2 9 6) (m.2 9 7)) ban i r j s := fun j s hj hs => by
    rw [← hF, ← hB, av_or, av_and, av_not hj hs, hS.2.2.2.2 i r j s hi (by omega) hj hs, hav j s p16 hj hs, Nat.testBit_two_pow]
    unfold A1s
    congr 2
    exact decide_eq_decide.mpr ⟨fun z => z.symm, fun z => z.symm⟩
  rw [show nI W - (1 : Int32) = iI ((W : Int) - 1) by rw [nI_i]; exact iI_sub _ 1]
  have f9 : Fm S98 m (si (si m 9 8 (iI ((W : Int) - 1))) 9 9 (nI W)) := (Fm.wr (by unfold S98; omega)).wr' (by unfold S98; omega)
  have S9 : SRm (si (si m 9 8 (iI ((W : Int) - 1))) 9 9 (nI W)) K must gain ban := hS.fr f9 (fun o _ => rfl)
  have iO : InO K (av F1 B1) Ob := fun j s hj hs w => by
    rw [eA j s (by omega) hs] at w
    unfold A1s at w
    rw [Bool.or_eq_true, Bool.and_eq_true, Bool.and_eq_true] at w
    rcases w with w | w
    · exact hA j s hj hs w.1
    · have e1 := of_decide_eq_true w.1
      have e2 := of_decide_eq_true w.2
      rw [e1, e2]; exact hA i r hi hr hAi
  obtain ⟨m10, mo', e10, t1, t2, t3, t4, t5, t6, t7⟩ := desc_ok hP.1 K 30 0 F1 B1 0 ((W : Int) - 1) W (si (si m 9 8 (iI ((W : Int) - 1))) 9 9 (nI W)) (by omega) (by omega) S9 iO (by rw [si1, if_neg (by omega), si_s]) si_s (by omega) (by omega) (by omega) (by omega)
  rw [show f_Search_descend 30 0 F1 B1 0 _ = some m10 from e10, cP_s, t1, nI_i W]
  have f10 : Fm S98 m m10 := f9.tr (t6.mo (fun o j w => by unfold S98; omega))
  have toI : ∀ c, CPr must ban K 0 (A1s (av (m.2 9 6) (m.2 9 7)) ban i r) c ↔ CPr must ban K 0 (av F1 B1) c := fun c => ⟨fun h => CP_mo (fun j s j1 j2 hs w => by rw [eA j s (by omega) hs]; exact w) h, fun h => CP_mo (fun j s j1 j2 hs w => by rw [eA j s (by omega) hs] at w; exact w) h⟩
  have cmp := b_le (x := (W : Int)) (y := mo') (by omega) (by omega) (by omega) (by omega)
  by_cases c : (W : Int) ≤ mo'
  · rw [if_pos (cmp.mpr c), bdE, bdE]
    refine ⟨true, _, rfl, fun o j w => ?_, fun o j w => ?_, fun _ => ⟨?_, fun j s hj hs => ?_⟩, fun w => by cases w⟩
    · exact f10 o j w
    · rw [sl2, if_neg (by omega), sl2, if_neg (by omega), t7]
      rfl
    · rcases t4 with w | ⟨c', hc', ec'⟩
      · omega
      · exact ⟨c', (toI c').mpr hc', by omega⟩
    · rw [show (sl (sl m10 9 6 F1) 9 7 B1).2 9 6 = F1 by rw [sl2, if_neg (by omega), sl2, if_pos ⟨rfl, rfl⟩], show (sl (sl m10 9 6 F1) 9 7 B1).2 9 7 = B1 by rw [sl2, if_pos ⟨rfl, rfl⟩]]
      exact eA j s hj hs
  · rw [if_neg (fun w => c (cmp.mp w))]
    refine ⟨false, m10, rfl, f10, fun o j w => by rw [t7]; rfl, fun w => (by cases w), fun _ => ⟨fun c' hc' => ?_, by rw [t7]; rfl⟩⟩
    have := t5 (by omega) c' ((toI c').mp hc')
    omega
