/-! PURE PART, BEST: from seats to names -/
noncomputable def gkS (n d : Nat) (a : Ch) (M : Nat → Nat) (K i r : Nat) : Nat := if i < K then gnS n d a M i r else 0
theorem rk_ws {a : Ch} {i r : Nat} (hr : r < 16) (h : wbS a i r < waysS a i) : r < waysS a i := by
  by_cases c : a 1 i = 1
  · have : waysS a i = 16 := by unfold waysS; rw [if_neg (by omega)]
    omega
  · unfold wbS at h
    rw [if_neg c] at h
    exact h
theorem po_ok {n d : Nat} {a : Ch} {K : Nat} {M : Nat → Nat} (hV : VV n d a) (hM : ∀ j, j < K → M j < n) : PO K (muS a M) (gkS n d a M K) (bnS n d a M K) (obS n d a M) := by
  refine ⟨⟨fun i r => ?_, fun i => ?_, fun i r r' h1 h2 o1 o2 => ?_⟩, fun i r hi hr ob => ?_, fun i r s hi hs => ?_, fun i j s hi hj hne => ?_, fun i r j s hi hj hne hr hs o1 o2 => ?_⟩
  · unfold gkS gnS
    split
    · rename_i c
      split
      · exact gaS_le hV (hM i c)
      · omega
    · omega
  · unfold gkS gnS
    split
    · rw [if_neg (by omega)]
    · rfl
  · unfold gkS
    by_cases c : i < K
    · rw [if_pos c, if_pos c]
      unfold gnS
      rw [if_pos (show r < 16 ∧ obS n d a M i r = true from ⟨by omega, o1⟩)]
      split
      · rename_i w
        have l1 := rk_ws w.1 (ow_lt w.2)
        have := wb_mo (a := a) (i := M i) (r := r) (q := r') (by omega) l1
        unfold gaS
        exact Nat.mul_le_mul_left _ (by omega)
      · exact Nat.zero_le _
    · rw [if_neg c, if_neg c]; exact Nat.le_refl _
  · unfold gkS gnS
    rw [if_pos hi, if_pos ⟨hr, ob⟩]
    exact gaS_pos hV (hM i hi) (wb16 hr)
  · unfold bnS
    simp
  · unfold bnS
    simp
    exact fun w => hne w.symm
  · unfold bnS
    rw [o1, o2, clB_sym]
    have : ¬ j = i := fun w => hne w.symm
    simp [hr, hs, hi, hj, hne, this]
def okN (n d : Nat) (a : Ch) (k w : Nat) : Prop := (w = 16 ∧ a 1 k ≠ 3) ∨ (w < 16 ∧ owB n d a k w = true)
def VS (n d : Nat) (a : Ch) (P : Nat → Bool) (σ : Nat → Nat) : Prop := (∀ k, k < n → P k = true → okN n d a k (σ k)) ∧ ∀ k l, k < n → l < n → P k = true → P l = true → k ≠ l → σ k ≠ 16 → σ l ≠ 16 → clB a k (σ k) l (σ l) 0 = false
def wgS (a : Ch) (k w : Nat) : Nat := if w = 16 then 0 else gaS a k w
def VL (n : Nat) (a : Ch) (P : Nat → Bool) (σ : Nat → Nat) : Nat := sumS (fun k => if P k = true then wgS a k (σ k) else 0) n
theorem vl_sum {gain : Nat → Nat → Nat} {c : Nat → Nat} (K : Nat) : vlr gain K 0 c = sumS (fun j => gain j (c j)) K := by
  induction K with
  | zero => rfl
  | succ K ih =>
    rw [vl_sn, ih, Nat.zero_add]
    rfl
theorem wy_rk {a : Ch} {M : Nat → Nat} {i w : Nat} (h : w ≤ 16) : wyS a M i (if w = 16 then 16 else rkS a (M i) w) = w := by
  unfold wyS
  by_cases c : w = 16
  · rw [if_pos c, if_pos rfl, c]
  · have r := rk16 (a := a) (i := M i) (show w < 16 by omega)
    rw [if_neg c, if_neg (by omega)]
    exact ((rkwb (by omega) r).mp rfl).symm
/-- one seat's gain, in the name's words -/
theorem gk_wg {n d : Nat} {a : Ch} {K j r : Nat} {M : Nat → Nat} (hj : j < K) (hu : usA (muS a M) (obS n d a M) j r = true) : gkS n d a M K j r = wgS a (M j) (wyS a M j r) := by
  have le := us_le hu
  unfold gkS gnS wgS wyS
  rw [if_pos hj]
  by_cases c : r = 16
  · rw [if_neg (by omega), if_pos (by rw [if_pos c])]
  · have r16 : r < 16 := by omega
    rw [us_lt r16] at hu
    have := wb16 (a := a) (i := M j) r16
    rw [if_pos ⟨r16, hu⟩, if_neg c, if_neg (by omega)]
theorem us_ok {n d : Nat} {a : Ch} {j r : Nat} {M : Nat → Nat} (h : r ≤ 16) : usA (muS a M) (obS n d a M) j r = true ↔ okN n d a (M j) (wyS a M j r) := by
  unfold okN wyS
  by_cases c : r = 16
  · subst c
    unfold usA muS
    rw [if_neg (by omega), if_pos rfl]
    simp
  · have r16 : r < 16 := by omega
    have := wb16 (a := a) (i := M j) r16
    rw [us_lt r16, if_neg c]
    unfold obS
    constructor
    · intro w; exact Or.inr ⟨this, w⟩
    · rintro (⟨w, -⟩ | ⟨-, w⟩)
      · omega
      · exact w
theorem to_N {n d : Nat} {a : Ch} {q : Nat → Nat} {P : Nat → Bool} {K : Nat} {M : Nat → Nat} {c σ : Nat → Nat} (en : EN q P n K M) (hq : ∀ u, u < n → q u < n) (hs : ∀ k, k < n → ∃ u, u < n ∧ q u = k) (hsum : ∀ f : Nat → Nat, sumS (fun u => f (q u)) n = sumS f n) (hσ : ∀ j, j < K → σ (M j) = wyS a M j (c j)) :
    (CPr (muS a M) (bnS n d a M K) K 0 (obS n d a M) c → VS n d a P σ ∧ VL n a P σ = vlr (gkS n d a M K) K 0 c) ∧ ((∀ j, j < K → c j ≤ 16) → VS n d a P σ → CPr (muS a M) (bnS n d a M K) K 0 (obS n d a M) c) := by
  obtain ⟨h1, h2, h3, h4, h5⟩ := en
  have idx : ∀ k, k < n → P k = true → ∃ j, j < K ∧ M j = k := fun k hk hp => by
    obtain ⟨u, hu, rfl⟩ := hs k hk
    exact h2 u hu hp
  have mem : ∀ j, j < K → M j < n ∧ P (M j) = true := fun j hj => by
    obtain ⟨u, hu, e, hp⟩ := h1 j hj
    rw [e]; exact ⟨hq u hu, hp⟩
  refine ⟨fun hc => ?_, fun hle hv => ?_⟩
  · obtain ⟨c1, c2⟩ := CP_flat.mp hc
    have us : ∀ j, j < K → usA (muS a M) (obS n d a M) j (c j) = true := fun j hj => c1 j (by omega) (by omega)
    refine ⟨⟨fun k hk hp => ?_, fun k l hk hl hp hpl hne nk nl => ?_⟩, ?_⟩
    · obtain ⟨j, hj, rfl⟩ := idx k hk hp
      rw [hσ j hj]
      exact (us_ok (us_le (us j hj))).mp (us j hj)
    · obtain ⟨j, hj, rfl⟩ := idx k hk hp
      obtain ⟨i, hi, rfl⟩ := idx l hl hpl
      have cj : c j ≠ 16 := fun w => nk (by rw [hσ j hj]; unfold wyS; rw [if_pos w])
      have ci : c i ≠ 16 := fun w => nl (by rw [hσ i hi]; unfold wyS; rw [if_pos w])
      have uj := us j hj
      have ui := us i hi
      have lj := us_le uj
      have li := us_le ui
      rw [us_lt (by omega)] at uj ui
      rw [hσ j hj, hσ i hi]
      unfold wyS
      rw [if_neg cj, if_neg ci]
      have ji : j ≠ i := fun w => hne (by rw [w])
      rcases Nat.lt_or_gt_of_ne ji with z | z
      · have := c2 j i (by omega) z (by omega) (by omega)
        unfold bnS at this
        rw [uj, ui] at this
        simp [hi, show ¬ i = j by omega, show c j < 16 by omega] at this
        exact this
      · have := c2 i j (by omega) z (by omega) (by omega)
        unfold bnS at this
        rw [uj, ui] at this
        simp [hj, show ¬ j = i by omega, show c i < 16 by omega] at this
        rw [clB_sym]
        exact this
    · unfold VL
      rw [vl_sum, ← hsum (fun k => if P k = true then wgS a k (σ k) else 0), ← h5 (fun k => wgS a k (σ k))]
      exact sum_cg (fun j hj => by rw [gk_wg hj (us j hj), hσ j hj])
  · obtain ⟨v1, v2⟩ := hv
    have us : ∀ j, j < K → usA (muS a M) (obS n d a M) j (c j) = true := fun j hj => by
      rw [us_ok (hle j hj), ← hσ j hj]
      exact v1 _ (mem j hj).1 (mem j hj).2
    refine CP_flat.mpr ⟨fun t _ ht => us t (by omega), fun j k _ jk hk hl => ?_⟩
    have kK : k < K := by omega
    have uk := us k kK
    rw [us_lt hl] at uk
    unfold bnS
    have kj : ¬ k = j := by omega
    by_cases cj : c j = 16
    · rw [cj]; simp [kj]
    · have lj := hle j (by omega)
      have uj := us j (by omega)
      rw [us_lt (by omega)] at uj
      have w1 : σ (M j) = wbS a (M j) (c j) := by rw [hσ j (by omega)]; unfold wyS; rw [if_neg cj]
      have w2 : σ (M k) = wbS a (M k) (c k) := by rw [hσ k kK]; unfold wyS; rw [if_neg (by omega)]
      have b1 := wb16 (a := a) (i := M j) (show c j < 16 by omega)
      have b2 := wb16 (a := a) (i := M k) hl
      have := v2 (M j) (M k) (mem j (by omega)).1 (mem k kK).1 (mem j (by omega)).2 (mem k kK).2 (fun w => kj (h3 k j kK (by omega) w.symm)) (by omega) (by omega)
      rw [w1, w2] at this
      rw [this]
      simp [kj]
def lsN (K : Nat) (M : Nat → Nat) (k : Nat) : Nat := cnt (fun j => !(anyB (fun i => decide (M i = k)) (j + 1))) K
theorem lsN_eq {K j : Nat} {M : Nat → Nat} (hi : ∀ j j', j < K → j' < K → M j = M j' → j = j') (hj : j < K) : lsN K M (M j) = j := by
  unfold lsN
  have key : ∀ N, N ≤ K → cnt (fun t => !(anyB (fun i => decide (M i = M j)) (t + 1))) N = if N ≤ j then N else j := by
    intro N hN
    induction N with
    | zero => rw [if_pos (by omega)]; rfl
    | succ N ih =>
      show cnt _ N + (if (!(anyB (fun i => decide (M i = M j)) (N + 1))) = true then 1 else 0) = _
      rw [ih (by omega)]
      by_cases c : N < j
      · have : anyB (fun i => decide (M i = M j)) (N + 1) = false := anyB_f.mpr (fun i hi' => by
          simp only [decide_eq_false_iff_not]
          intro w
          have := hi i j (by omega) hj w
          omega)
        rw [this, if_pos (show (!false) = true from rfl), if_pos (by omega), if_pos (by omega)]
      · have : anyB (fun i => decide (M i = M j)) (N + 1) = true := anyB_t.mpr ⟨j, by omega, by simp⟩
        rw [this, if_neg (show ¬ (!true) = true by decide), if_neg (show ¬ N + 1 ≤ j by omega)]
        split <;> omega
  rw [key K (Nat.le_refl _), if_neg (by omega)]
theorem wy_inj {a : Ch} {M : Nat → Nat} {i r r' : Nat} (h : r ≤ 16) (h' : r' ≤ 16) (e : wyS a M i r = wyS a M i r') : r = r' := by
  unfold wyS at e
  by_cases c : r = 16
  · rw [if_pos c] at e
    by_cases c' : r' = 16
    · omega
    · rw [if_neg c'] at e
      have := wb16 (a := a) (i := M i) (show r' < 16 by omega)
      omega
  · rw [if_neg c] at e
    have w := wb16 (a := a) (i := M i) (show r < 16 by omega)
    by_cases c' : r' = 16
    · rw [if_pos c'] at e
      omega
    · rw [if_neg c'] at e
      have w' := wb16 (a := a) (i := M i) (show r' < 16 by omega)
      have e1 := (rkwb (a := a) (i := M i) w (show r < 16 by omega)).mpr rfl
      have e2 := (rkwb (a := a) (i := M i) w' (show r' < 16 by omega)).mpr rfl
      rw [← e1, ← e2, e]
def LB (n d : Nat) (a : Ch) (P : Nat → Bool) (σ : Nat → Nat) (W : Nat) : Prop := VS n d a P σ ∧ VL n a P σ = W ∧ (∀ τ, VS n d a P τ → VL n a P τ ≤ W) ∧ ∀ τ, VS n d a P τ → VL n a P τ = W → ∀ k, k < n → P k = true → (∀ l, l < k → P l = true → τ l = σ l) → σ k ≤ τ k
theorem LB_uq {n d : Nat} {a : Ch} {P : Nat → Bool} {σ τ : Nat → Nat} {W W' : Nat} (h : LB n d a P σ W) (g : LB n d a P τ W') : W = W' ∧ ∀ k, k < n → P k = true → σ k = τ k := by
  obtain ⟨h1, h2, h3, h4⟩ := h
  obtain ⟨g1, g2, g3, g4⟩ := g
  have e : W = W' := by
    have := h3 τ g1
    have := g3 σ h1
    omega
  refine ⟨e, fun k => ?_⟩
  induction k using Nat.strongRecOn with
  | _ k ih =>
    intro hk hp
    have p1 := h4 τ g1 (by omega) k hk hp (fun l hl hpl => (ih l hl (by omega) hpl).symm)
    have p2 := g4 σ h1 (by omega) k hk hp (fun l hl hpl => ih l hl (by omega) hpl)
    omega
set_option maxHeartbeats 1000000 in
/-- the class's part -/
theorem class_part {m : Me} {n d : Nat} {a : Ch} {P : Nat → Bool} {K : Nat} {M : Nat → Nat} (hV : VV n d a) (hC : CC m 10 n d a) (en : EN (qS a n) P n K M) (hS : SRm m K (muS a M) (gnS n d a M) (bnS n d a M K)) (hM : ∀ j, j < K → m.1 100 j = nI (M j)) (hO : ∀ j s, j < 8 → s < 16 → av (m.2 9 6) (m.2 9 7) j s = (decide (j < K) && obS n d a M j s)) :
    ∃ m1 : Me, Fm S98 m m1 ∧ ((f_Search_mostWorth m = some (-1, m1) ∧ ∀ σ, ¬ VS n d a P σ) ∨ ∃ (W : Nat) (m2 : Me) (σ : Nat → Nat), W ≤ 1400000 ∧ f_Search_mostWorth m = some (nI W, m1) ∧ f_Search_pickFirst (nI W) 109 m1 = some m2 ∧ LB n d a P σ W ∧ (∀ k, k < n → P k = true → m2.1 109 k = hI (σ k)) ∧ (∀ k, k < n → P k = false → m2.1 109 k = m1.1 109 k) ∧ Fm Spk m1 m2) := by
  have k7 := hS.1
  have Mn : ∀ j, j < K → M j < n := fun j hj => by
    obtain ⟨u, u1, u2, -⟩ := en.1 j hj
    rw [u2]; exact qS_lt u1
  have Pm : ∀ j, j < K → P (M j) = true := fun j hj => by
    obtain ⟨u, u1, u2, u3⟩ := en.1 j hj
    rw [u2]; exact u3
  have hP := po_ok hV Mn
  have S' : SRm m K (muS a M) (gkS n d a M K) (bnS n d a M K) := by
    obtain ⟨s1, s2, s3, s4, s5⟩ := hS
    exact ⟨s1, s2, s3, fun i r hi hr => by unfold gkS; rw [if_pos hi]; exact s4 i r hi hr, s5⟩
  have hA : ∀ j s, j < K → s < 16 → av (m.2 9 6) (m.2 9 7) j s = obS n d a M j s := fun j s hj hs => by
    rw [hO j s (by omega) hs, decide_eq_true hj, Bool.true_and]
  have idx : ∀ k, k < n → P k = true → ∃ j, j < K ∧ M j = k := fun k hk hp => by
    obtain ⟨u, hu, rfl⟩ := qS_sur (a := a) hk
    exact en.2.1 u hu hp
  have TN := fun (c σ : Nat → Nat) (hσ : ∀ j, j < K → σ (M j) = wyS a M j (c j)) => to_N (d := d) en (fun u hu => qS_lt hu) (fun k hk => qS_sur hk) (fun f => sum_q f a n) hσ
  -- from a setting of names to options
  have toC : ∀ σ, VS n d a P σ → ∃ c : Nat → Nat, (∀ j, j < K → σ (M j) = wyS a M j (c j)) ∧ CPr (muS a M) (bnS n d a M K) K 0 (obS n d a M) c ∧ vlr (gkS n d a M K) K 0 c = VL n a P σ := by
    intro σ hv
    have le : ∀ j, j < K → σ (M j) ≤ 16 := fun j hj => by
      rcases hv.1 _ (Mn j hj) (Pm j hj) with ⟨w, -⟩ | ⟨w, -⟩ <;> omega
    have hσ : ∀ j, j < K → σ (M j) = wyS a M j (if σ (M j) = 16 then 16 else rkS a (M j) (σ (M j))) := fun j hj => (wy_rk (le j hj)).symm
    refine ⟨fun j => if σ (M j) = 16 then 16 else rkS a (M j) (σ (M j)), hσ, ?_⟩
    obtain ⟨t1, t2⟩ := TN _ σ hσ
    have hc := t2 (fun j hj => by
      show (if σ (M j) = 16 then 16 else rkS a (M j) (σ (M j))) ≤ 16
      split
      · omega
      · rename_i w
        have := rk16 (a := a) (i := M j) (show σ (M j) < 16 by have := le j hj; omega)
        omega) hv
    exact ⟨hc, (t1 hc).2.symm⟩
  obtain ⟨m1, f1, l1, h | ⟨W, W1, e1, mx', ex⟩⟩ := most_w S' hP hA
  · refine ⟨m1, f1, Or.inl ⟨h.1, fun σ hv => ?_⟩⟩
    obtain ⟨c, -, hc, -⟩ := toC σ hv
    exact h.2 c hc
  · obtain ⟨m2, dd, e2, bd', r1, r2, r3, f2⟩ := pick_ok (m := m1) hV (hC.fr f1 (fun o j _ _ => by unfold S98; omega)) (fun j hj => ⟨by rw [f1 _ _ (by unfold S98; omega)]; exact hM j hj, Mn j hj⟩) en.2.2.1 (S'.fr f1 (fun o _ => by rw [l1])) hP W1 mx' (by rw [l1]; exact hA) ex
    -- the names' setting
    obtain ⟨σ, hσ⟩ : ∃ σ : Nat → Nat, ∀ j, j < K → σ (M j) = wyS a M j (dd j) := by
      refine ⟨fun k => wyS a M (lsN K M k) (dd (lsN K M k)), fun j hj => ?_⟩
      show wyS a M (lsN K M (M j)) (dd (lsN K M (M j))) = _
      rw [lsN_eq en.2.2.1 hj]
    obtain ⟨v1, v2⟩ := (TN dd σ hσ).1 bd'.1
    refine ⟨m1, f1, Or.inr ⟨W, m2, σ, W1, e1, e2, ⟨v1, by rw [v2]; exact bd'.2, fun τ hτ => ?_, fun τ hτ hW k hk hp hag => ?_⟩, fun k hk hp => ?_, fun k hk hp => ?_, f2⟩⟩
    · obtain ⟨c, -, hc, hv⟩ := toC τ hτ
      rw [← hv]; exact mx' c hc
    · obtain ⟨c, cσ, hc, hv⟩ := toC τ hτ
      obtain ⟨j, hj, rfl⟩ := idx k hk hp
      rw [hσ j hj, cσ j hj]
      refine r2 j hj c ⟨hc, by rw [hv]; exact hW⟩ (fun i' hi' hlt => ?_)
      have ag := hag (M i') hlt (Pm i' hi')
      rw [cσ i' hi', hσ i' hi'] at ag
      have u1 := us_le ((CP_flat.mp hc).1 i' (by omega) (by omega))
      have u2 := us_le ((CP_flat.mp bd'.1).1 i' (by omega) (by omega))
      exact wy_inj u1 u2 ag
    · obtain ⟨j, hj, rfl⟩ := idx k hk hp
      rw [hσ j hj]; exact r1 j hj
    · exact r3 k (fun i hi w => by have := Pm i hi; rw [w, hp] at this; cases this)
