/-! PURE PART, BEST: who sits where -/
def EN (q : Nat → Nat) (P : Nat → Bool) (t K : Nat) (M : Nat → Nat) : Prop := (∀ j, j < K → ∃ u, u < t ∧ M j = q u ∧ P (q u) = true) ∧ (∀ u, u < t → P (q u) = true → ∃ j, j < K ∧ M j = q u) ∧ (∀ j j', j < K → j' < K → M j = M j' → j = j') ∧ K = cnt (fun u => P (q u)) t ∧ ∀ g : Nat → Nat, sumS (fun j => g (M j)) K = sumS (fun u => if P (q u) = true then g (q u) else 0) t
theorem EN_0 {q : Nat → Nat} {P : Nat → Bool} {M : Nat → Nat} : EN q P 0 0 M := ⟨fun j hj => by omega, fun u hu => by omega, fun j j' hj => by omega, rfl, fun g => rfl⟩
theorem EN_n {q : Nat → Nat} {P : Nat → Bool} {t K : Nat} {M : Nat → Nat} (h : EN q P t K M) (hP : P (q t) = false) : EN q P (t + 1) K M := by
  obtain ⟨h1, h2, h3, h4, h5⟩ := h
  refine ⟨fun j hj => ?_, fun u hu hp => ?_, h3, ?_, fun g => ?_⟩
  · obtain ⟨u, u1, u2⟩ := h1 j hj
    exact ⟨u, by omega, u2⟩
  · by_cases e : u = t
    · subst e; rw [hP] at hp; cases hp
    · exact h2 u (by omega) hp
  · show K = cnt (fun u => P (q u)) t + (if P (q t) = true then 1 else 0)
    rw [hP, ← h4]; rfl
  · show _ = sumS _ t + (if P (q t) = true then g (q t) else 0)
    rw [hP, h5 g]; rfl
theorem EN_y {q : Nat → Nat} {P : Nat → Bool} {t K : Nat} {M : Nat → Nat} (h : EN q P t K M) (hP : P (q t) = true) (hq : ∀ u, u < t → q u ≠ q t) : EN q P (t + 1) (K + 1) (fun j => if j = K then q t else M j) := by
  obtain ⟨h1, h2, h3, h4, h5⟩ := h
  refine ⟨fun j hj => ?_, fun u hu hp => ?_, fun j j' hj hj' e => ?_, ?_, fun g => ?_⟩
  · by_cases e : j = K
    · exact ⟨t, by omega, if_pos e, hP⟩
    · obtain ⟨u, u1, u2, u3⟩ := h1 j (by omega)
      exact ⟨u, by omega, (if_neg e).trans u2, u3⟩
  · by_cases e : u = t
    · exact ⟨K, by omega, by rw [e]; exact if_pos rfl⟩
    · obtain ⟨j, j1, j2⟩ := h2 u (by omega) hp
      exact ⟨j, by omega, (if_neg (by omega)).trans j2⟩
  · have e : (if j = K then q t else M j) = (if j' = K then q t else M j') := e
    by_cases c : j = K
    · by_cases c' : j' = K
      · omega
      · rw [if_pos c, if_neg c'] at e
        obtain ⟨u, u1, u2, -⟩ := h1 j' (by omega)
        exact absurd (u2.symm.trans e.symm) (hq u u1)
    · by_cases c' : j' = K
      · rw [if_neg c, if_pos c'] at e
        obtain ⟨u, u1, u2, -⟩ := h1 j (by omega)
        exact absurd (u2.symm.trans e) (hq u u1)
      · rw [if_neg c, if_neg c'] at e
        exact h3 j j' (by omega) (by omega) e
  · show K + 1 = cnt (fun u => P (q u)) t + (if P (q t) = true then 1 else 0)
    rw [hP, ← h4]; rfl
  · show sumS (fun j => g (if j = K then q t else M j)) K + g (if K = K then q t else M K) = sumS _ t + (if P (q t) = true then g (q t) else 0)
    rw [if_pos rfl, if_pos hP, ← h5 g]
    congr 1
    exact sum_cg (fun j hj => by rw [if_neg (by omega)])
def Sse (o : Nat) (_ : Nat) : Prop := o = 9 ∨ o = 100 ∨ o = 101 ∨ o = 102
theorem cnt_lt {f : Nat → Bool} {i n : Nat} (hi : i < n) (hf : f i = true) : cnt f i + 1 ≤ cnt f n := by
  have h1 : cnt f (i + 1) = cnt f i + 1 := by
    show cnt f i + (if f i = true then 1 else 0) = _
    rw [if_pos hf]
  have := cnt_mono (f := f) (show i + 1 ≤ n by omega)
  omega
theorem seat110 {m : Me} {n d : Nat} {a : Ch} {K : Nat} {M : Nat → Nat} (hV : VV n d a) (hC : CC m 10 n d a) (hL : LK m n d a) (hK : K ≤ 7) (hM : ∀ j, j < K → m.1 100 j = nI (M j) ∧ M j < n) (h5 : m.1 9 5 = nI K) (hO : ∀ j s, j < 8 → s < 16 → av (m.2 9 6) (m.2 9 7) j s = false) :
    ∃ m' : Me, (fx lb_Search_seat_110 (fun _ _ => none) FU) 0 m = some m' ∧ Fm S102 m m' ∧ (∀ j, j < K → RowOk m' n d a M K j) ∧ ∀ j s, j < 8 → s < 16 → av (m'.2 9 6) (m'.2 9 7) j s = (decide (j < K) && obS n d a M j s) := by
  refine up aM K (fun i m' => Fm S102 m m' ∧ (∀ j, j < i → RowOk m' n d a M K j) ∧ ∀ j s, j < 8 → s < 16 → av (m'.2 9 6) (m'.2 9 7) j s = (decide (j < i) && obS n d a M j s)) (fun r => ∃ m' : Me, r = some m' ∧ Fm S102 m m' ∧ (∀ j, j < K → RowOk m' n d a M K j) ∧ ∀ j s, j < 8 → s < 16 → av (m'.2 9 6) (m'.2 9 7) j s = (decide (j < K) && obS n d a M j s)) 0 m (by omega) (by unfold FU; omega) ⟨Fm.rf, fun j hj => by omega, fun j s hj hs => by rw [hO j s hj hs]; simp⟩ ?_ ?_
  · rintro f i m1 hi ⟨p1, p2, p3⟩ ih
    show ∃ m' : Me, lb_Search_seat_110 f (nI i) m1 = some m' ∧ _
    unfold lb_Search_seat_110
    have q5 : m1.1 9 5 = nI K := by rw [p1 _ _ (by unfold S102; omega)]; exact h5
    obtain ⟨m2, e2, t1, t2, t3⟩ := opts_ok (m := m1) hV (hC.fr p1 (fun o j _ _ => by unfold S102; omega)) (hL.fr hV p1 (fun o j _ => by unfold S102; omega)) hK (fun j hj => by rw [p1 _ _ (by unfold S102; omega)]; exact hM j hj) q5 hi p2 p3
    rw [q5, if_neg (nI_ge hi (by omega)), e2, cP_s, bdE, nI_1]
    exact ih m2 ⟨p1.tr t1, t2, t3⟩
  · rintro f m1 ⟨p1, p2, p3⟩
    show ∃ m' : Me, lb_Search_seat_110 f (nI K) m1 = some m' ∧ _
    unfold lb_Search_seat_110
    rw [show m1.1 9 5 = nI K by rw [p1 _ _ (by unfold S102; omega)]; exact h5, if_pos (nI_le (Nat.le_refl _) (by omega))]
    exact ⟨m1, rfl, p1, p2, p3⟩
set_option maxHeartbeats 1000000 in
theorem seat_ok {m : Me} {n d : Nat} {a : Ch} {C : Nat → Nat} {p : Nat} (hV : VV n d a) (hC : CC m 10 n d a) (hL : LK m n d a) (hq : ∀ j, j < n → m.1 110 j = nI (qS a n j)) (h7 : ∀ k, k < n → m.1 7 k = nI (C k)) (hCl : ∀ k, k < n → C k ≤ 24) (hp : p ≤ 24) (hc : cnt (fun k => decide (C k = p)) n ≤ 7) :
    ∃ (m' : Me) (K : Nat) (M : Nat → Nat), f_Search_seat (nI p) 110 m = some m' ∧ EN (qS a n) (fun k => decide (C k = p)) n K M ∧ SRm m' K (muS a M) (gnS n d a M) (bnS n d a M K) ∧ (∀ j, j < K → m'.1 100 j = nI (M j)) ∧ (∀ j s, j < 8 → s < 16 → av (m'.2 9 6) (m'.2 9 7) j s = (decide (j < K) && obS n d a M j s)) ∧ Fm Sse m m' := by
  have h24 := hV.1
  unfold f_Search_seat
  rw [bdE, bdE]
  refine up aM n (fun t m' => ∃ (K : Nat) (M : Nat → Nat), EN (qS a n) (fun k => decide (C k = p)) t K M ∧ m'.1 9 5 = nI K ∧ (∀ j, j < K → m'.1 100 j = nI (M j) ∧ m'.1 101 j = bI (muS a M j)) ∧ Fm Sse m m') (fun r => ∃ (m' : Me) (K : Nat) (M : Nat → Nat), r = some m' ∧ EN (qS a n) (fun k => decide (C k = p)) n K M ∧ SRm m' K (muS a M) (gnS n d a M) (bnS n d a M K) ∧ (∀ j, j < K → m'.1 100 j = nI (M j)) ∧ (∀ j s, j < 8 → s < 16 → av (m'.2 9 6) (m'.2 9 7) j s = (decide (j < K) && obS n d a M j s)) ∧ Fm Sse m m') 0 _ (by omega) (by unfold FU; omega) ⟨0, fun _ => 0, EN_0, si_s, fun j hj => by omega, Fm.wr (by unfold Sse; omega)⟩ ?_ ?_
  · rintro f t m1 ht ⟨K, M, en, k5, kM, f1⟩ ih
    show ∃ (m' : Me) (K : Nat) (M : Nat → Nat), lb_Search_seat_8 (nI p) 110 _ f (nI t) m1 = some m' ∧ _
    unfold lb_Search_seat_8
    have lq := qS_lt (a := a) ht
    have C1 := hC.fr f1 (fun o j _ _ => by unfold Sse; omega)
    have h3 := (hV.2.2.1 _ lq).1.1
    have ck := hCl _ lq
    rw [C1.1, if_neg (nI_ge ht (by omega)), show ln 110 = 24 from rfl, rd_n (by omega) (by omega), show m1.1 110 t = nI (qS a n t) by rw [f1 _ _ (by unfold Sse; omega)]; exact hq t ht, show ln 7 = 24 from rfl, rd_n (by omega) (by omega), show m1.1 7 (qS a n t) = nI (C (qS a n t)) by rw [f1 _ _ (by unfold Sse; omega)]; exact h7 _ lq, bdE]
    by_cases e : C (qS a n t) = p
    · have Kt : K + 1 ≤ cnt (fun u => decide (C (qS a n u) = p)) n := by
        rw [en.2.2.2.1]
        exact cnt_lt (f := fun u => decide (C (qS a n u) = p)) ht (by simp [e])
      have Kc : cnt (fun u => decide (C (qS a n u) = p)) n ≤ 7 := by
        rw [cnt_q (fun k => decide (C k = p)) a n]; exact hc
      rw [if_pos (by rw [e]), k5, if_neg (show ¬ (7 : Int32) ≤ nI K from nI_ge (b := 7) (by omega) (by decide)), show ln 100 = 7 from rfl, wi_n (by omega) (by omega)]
      rw [show ln 11 = 24 from rfl, rd_n (by omega) (by omega), show (si m1 100 K (nI (qS a n t))).1 11 (qS a n t) = nI (a 1 (qS a n t)) by rw [si1, if_neg (by omega)]; exact (C1.nm lq).1]
      have fin : ∀ v : Int32, v = bI (decide (a 1 (qS a n t) = 3)) → ∃ (m' : Me) (K2 : Nat) (M2 : Nat → Nat), wz (si m1 100 K (nI (qS a n t))) 101 (ln 101) ((si m1 100 K (nI (qS a n t))).1 9 5) v (fun m18 => bd (si m18 9 5 (m18.1 9 5 + 1)) (fun m19 => bd (nI t + 1) (fun v14 => f v14 m19))) = some m' ∧ EN (qS a n) (fun k => decide (C k = p)) n K2 M2 ∧ SRm m' K2 (muS a M2) (gnS n d a M2) (bnS n d a M2 K2) ∧ (∀ j, j < K2 → m'.1 100 j = nI (M2 j)) ∧ (∀ j s, j < 8 → s < 16 → av (m'.2 9 6) (m'.2 9 7) j s = (decide (j < K2) && obS n d a M2 j s)) ∧ Fm Sse m m' := by
        rintro v rfl
        have k5' : (si m1 100 K (nI (qS a n t))).1 9 5 = nI K := by rw [si1, if_neg (by omega)]; exact k5
        rw [k5', show ln 101 = 7 from rfl, wz_n (by omega) (by omega) (bI_01 _), bdE, bdE, nI_1]
        rw [show (si (si m1 100 K (nI (qS a n t))) 101 K (bI (decide (a 1 (qS a n t) = 3)))).1 9 5 = nI K by rw [si1, if_neg (by omega)]; exact k5', show nI K + 1 = nI (K + 1) from nI_1 _]
        refine ih _ ⟨K + 1, fun j => if j = K then qS a n t else M j, EN_y en (by simp [e]) (fun u hu w => by have := qS_inj (show u < n by omega) ht w; omega), si_s, fun j hj => ?_, ((f1.wr' (by unfold Sse; omega)).wr' (by unfold Sse; omega)).wr' (by unfold Sse; omega)⟩
        unfold muS
        by_cases c : j = K
        · subst c
          simp [si1]
        · have := kM j (by omega)
          unfold muS at this
          simp [si1, c]
          exact this
      rw [bdE]
      by_cases c3 : a 1 (qS a n t) = 3
      · rw [if_pos (show nI (a 1 (qS a n t)) = (3 : Int32) by rw [c3]; rfl)]
        exact fin 1 (by rw [decide_eq_true c3]; rfl)
      · rw [if_neg (show ¬ nI (a 1 (qS a n t)) = (3 : Int32) from nI_ne (b := 3) (by omega) (by decide) c3)]
        exact fin 0 (by rw [decide_eq_false c3]; rfl)
    · rw [if_neg (nI_ne (by omega) (by omega) e)]
      simp only []
      rw [bdE, nI_1]
      exact ih m1 ⟨K, M, EN_n en (by simp [e]), k5, kM, f1⟩
  · rintro f m1 ⟨K, M, en, k5, kM, f1⟩
    show ∃ (m' : Me) (K : Nat) (M : Nat → Nat), lb_Search_seat_8 (nI p) 110 _ f (nI n) m1 = some m' ∧ _
    unfold lb_Search_seat_8
    have C1 := hC.fr f1 (fun o j _ _ => by unfold Sse; omega)
    have L1 := hL.fr hV f1 (fun o j _ => by unfold Sse; omega)
    have K7 : K ≤ 7 := by
      have := en.2.2.2.1
      rw [cnt_q (fun k => decide (C k = p)) a n] at this
      omega
    have Mn : ∀ j, j < K → M j < n := fun j hj => by
      obtain ⟨u, u1, u2, -⟩ := en.1 j hj
      rw [u2]; exact qS_lt u1
    rw [C1.1, if_pos (nI_le (Nat.le_refl _) (by omega))]
    simp only []
    rw [bdE, bdE]
    have j4 : (sl (sl m1 9 6 0) 9 7 0).1 = m1.1 := rfl
    obtain ⟨m2, e2, t1, t2, t3⟩ := seat110 (m := sl (sl m1 9 6 0) 9 7 0) (K := K) (M := M) hV (C1.fr (S := fun _ _ => False) (Fm.eq1 j4) (fun _ _ _ _ w => w)) (L1.fr hV (S := fun _ _ => False) (Fm.eq1 j4) (fun _ _ _ w => w)) K7 (fun j hj => ⟨(kM j hj).1, Mn j hj⟩) k5 (fun j s _ _ => by
      have b1 : (sl (sl m1 9 6 0) 9 7 0).2 9 6 = 0 := by rw [sl2, if_neg (by omega), sl2, if_pos ⟨rfl, rfl⟩]
      have b2 : (sl (sl m1 9 6 0) 9 7 0).2 9 7 = 0 := by rw [sl2, if_pos ⟨rfl, rfl⟩]
      rw [b1, b2]; exact av_0 j s)
    have g2 : ∀ o j, o ≠ 102 → m2.1 o j = m1.1 o j := fun o j w => t1 o j (by unfold S102; exact w)
    refine ⟨m2, K, M, e2, en, ⟨K7, ?_, ?_, ?_, ?_⟩, ?_, t3, ?_⟩
    · rw [g2 _ _ (by omega)]; exact k5
    · intro i hi
      rw [g2 _ _ (by omega)]; exact (kM i hi).2
    · intro i r hi hr
      exact (t2 i hi).1 r hr
    · intro i r j s hi hr hj hs
      exact (t2 i hi).2 r j s hr hj hs
    · intro j hj
      rw [g2 _ _ (by omega)]; exact (kM j hj).1
    · refine f1.tr (fun o j w => ?_)
      rw [g2 o j (fun z => w (by unfold Sse; omega))]
