/-! PURE PART, BEST: all parts -/
theorem LB_cg {n d : Nat} {a : Ch} {P : Nat → Bool} {σ τ : Nat → Nat} {W : Nat} (h : LB n d a P σ W) (e : ∀ k, k < n → P k = true → σ k = τ k) : LB n d a P τ W := by
  have vs : ∀ ρ ρ' : Nat → Nat, (∀ k, k < n → P k = true → ρ k = ρ' k) → VS n d a P ρ → VS n d a P ρ' := fun ρ ρ' he hv => ⟨fun k hk hp => by rw [← he k hk hp]; exact hv.1 k hk hp, fun k l hk hl hp hpl hne nk nl => by
    rw [← he k hk hp] at nk ⊢
    rw [← he l hl hpl] at nl ⊢
    exact hv.2 k l hk hl hp hpl hne nk nl⟩
  have vl : VL n a P τ = VL n a P σ := by
    unfold VL
    refine sum_cg (fun k hk => ?_)
    by_cases hp : P k = true
    · rw [if_pos hp, if_pos hp, e k hk hp]
    · rw [if_neg hp, if_neg hp]
  obtain ⟨h1, h2, h3, h4⟩ := h
  exact ⟨vs σ τ e h1, vl.trans h2, h3, fun ρ hρ hW k hk hp hag => by
    rw [← e k hk hp]
    exact h4 ρ hρ hW k hk hp (fun l hl hpl => by rw [hag l hl hpl, e l (by omega) hpl])⟩
def Pp (C : Nat → Nat) (p : Nat) : Nat → Bool := fun k => decide (C k = p)
def Sbc (o : Nat) (_ : Nat) : Prop := o = 9 ∨ o = 100 ∨ o = 101 ∨ o = 102 ∨ o = 109
set_option maxHeartbeats 1000000 in
theorem bestC {m : Me} {n d : Nat} {a : Ch} {C : Nat → Nat} {N : Nat} {Kt : Int32 → Me → Option (Int32 × Me)} {Q : Option (Int32 × Me) → Prop} (hV : VV n d a) (hC : CC m 10 n d a) (hL : LK m n d a) (hq : ∀ j, j < n → m.1 110 j = nI (qS a n j)) (h7 : ∀ k, k < n → m.1 7 k = nI (C k)) (hCl : ∀ k, k < n → C k < N) (hN : N ≤ 24) (h62 : m.1 6 2 = nI N) (hc : ∀ p, p < N → cnt (Pp C p) n ≤ 7)
    (hno : (∃ p, p < N ∧ ∀ σ, ¬ VS n d a (Pp C p) σ) → ∀ m' : Me, Fm Sbc m m' → Q (some (-4, m')))
    (hK : ∀ (m' : Me) (g W : Nat → Nat), (∀ p, p < N → LB n d a (Pp C p) g (W p)) → (∀ k, k < n → m'.1 109 k = hI (g k)) → Fm Sbc m m' → Q (Kt (nI (sumS W N)) m')) : Q ((fx (lb_NC_best_34 Kt) (fun _ _ _ => none) FU) 0 0 m) := by
  have h24 := hV.1
  refine up aVM N (fun p s => ∃ g W : Nat → Nat, s.1 = nI (sumS W p) ∧ (∀ p', p' < p → LB n d a (Pp C p') g (W p')) ∧ (∀ k, k < n → C k < p → s.2.1 109 k = hI (g k)) ∧ Fm Sbc m s.2) Q 0 (0, m) (by omega) (by unfold FU; omega) ⟨fun _ => 0, fun _ => 0, rfl, fun p' h => by omega, fun k _ h => by omega, Fm.rf⟩ ?_ ?_
  · rintro f p ⟨s, m1⟩ hp ⟨g, W, hs, lb, gi, f1⟩ ih
    have hs : s = nI (sumS W p) := hs
    have gi : ∀ k, k < n → C k < p → m1.1 109 k = hI (g k) := gi
    have f1 : Fm Sbc m m1 := f1
    subst hs
    show Q (lb_NC_best_34 Kt f _ (nI p) m1)
    unfold lb_NC_best_34
    have C1 := hC.fr f1 (fun o j _ _ => by unfold Sbc; omega)
    have L1 := hL.fr hV f1 (fun o j _ => by unfold Sbc; omega)
    obtain ⟨m2, K, M, e2, en, sr, m100, o9, f2⟩ := seat_ok (m := m1) (p := p) (C := C) hV C1 L1 (fun j hj => by rw [f1 _ _ (by unfold Sbc; omega)]; exact hq j hj) (fun k hk => by rw [f1 _ _ (by unfold Sbc; omega)]; exact h7 k hk) (fun k hk => by have := hCl k hk; omega) (by omega) (hc p hp)
    have f12 : Fm Sbc m m2 := f1.tr (f2.mo (fun o j z => by unfold Sse at z; unfold Sbc; omega))
    obtain ⟨m3, f3, alt⟩ := class_part (m := m2) hV (hC.fr f12 (fun o j _ _ => by unfold Sbc; omega)) en sr m100 o9
    have f13 : Fm Sbc m m3 := f12.tr (f3.mo (fun o j z => by unfold S98 at z; unfold Sbc; omega))
    rw [show m1.1 6 2 = nI N by rw [f1 _ _ (by unfold Sbc; omega)]; exact h62, if_neg (nI_ge hp (by omega)), e2, cP_s]
    rcases alt with ⟨e3, no⟩ | ⟨Wp, m4, σ, W1, e3, e4, lbp, r1, r2, f4⟩
    · rw [e3, cI_s, if_pos rfl]
      exact hno ⟨p, hp, no⟩ m3 f13
    · rw [e3, cI_s, if_neg (nI_n1 (by omega)), e4, cP_s, bdE, bdE, nI_1, nI_add]
      obtain ⟨W', ws, wn⟩ : ∃ W' : Nat → Nat, W' p = Wp ∧ ∀ j, j ≠ p → W' j = W j := ⟨fun j => if j = p then Wp else W j, if_pos rfl, fun j h => if_neg h⟩
      obtain ⟨g', gs, gn⟩ : ∃ g' : Nat → Nat, (∀ k, C k = p → g' k = σ k) ∧ ∀ k, C k ≠ p → g' k = g k := ⟨fun k => if C k = p then σ k else g k, fun k h => if_pos h, fun k h => if_neg h⟩
      have f14 : Fm Sbc m m4 := f13.tr (f4.mo (fun o j z => by unfold Spk at z; unfold Sbc; omega))
      refine ih (_, m4) ⟨g', W', ?_, fun p' hp' => ?_, fun k hk hk' => ?_, f14⟩
      · show nI (sumS W p + Wp) = nI (sumS W' p + W' p)
        rw [ws, sum_cg (f := W') (g := W) (fun j hj => wn j (by omega))]
      · by_cases z : p' = p
        · subst z
          rw [ws]
          exact LB_cg lbp (fun k hk hp => (gs k (of_decide_eq_true hp)).symm)
        · rw [wn p' z]
          exact LB_cg (lb p' (by omega)) (fun k hk hp => (gn k (by have := of_decide_eq_true hp; omega)).symm)
      · show m4.1 109 k = hI (g' k)
        by_cases z : C k = p
        · rw [gs k z]; exact r1 k hk (decide_eq_true z)
        · rw [gn k z, r2 k hk (decide_eq_false z), f3 _ _ (by unfold S98; omega), f2 _ _ (by unfold Sse; omega)]
          exact gi k hk (by omega)
  · rintro f ⟨s, m1⟩ ⟨g, W, hs, lb, gi, f1⟩
    have hs : s = nI (sumS W N) := hs
    have gi : ∀ k, k < n → C k < N → m1.1 109 k = hI (g k) := gi
    have f1 : Fm Sbc m m1 := f1
    subst hs
    show Q (lb_NC_best_34 Kt f _ (nI N) m1)
    unfold lb_NC_best_34
    rw [show m1.1 6 2 = nI N by rw [f1 _ _ (by unfold Sbc; omega)]; exact h62, if_pos (nI_le (Nat.le_refl _) (by omega))]
    exact hK m1 g W lb (fun k hk => gi k hk (hCl k hk)) f1
def Sbm (o j : Nat) : Prop := SBo o j ∨ o = 219
set_option maxHeartbeats 1000000 in
theorem best42 {m : Me} {n K : Nat} {mb σ : Nat → Nat} {Kt : Me → Option (Int32 × Me)} {Q : Option (Int32 × Me) → Prop} (h24 : n ≤ 24) (hK : K ≤ 24) (h29 : m.1 200 29 = nI K) (hmb : ∀ j, j < K → mb j < n ∧ m.1 215 j = nI (mb j) ∧ m.1 217 j = nI (σ (mb j)))
    (hKt : ∀ m' : Me, Fm (fun o _ => o = 219) m m' → (∀ j, j < K → m'.1 219 (mb j) = nI (σ (mb j))) → (∀ k, (∀ j, j < K → mb j ≠ k) → m'.1 219 k = m.1 219 k) → Q (Kt m')) : Q ((fx (lb_Mo_best_42 Kt) (fun _ _ => none) FU) 0 m) := by
  refine up aM K (fun t m' => Fm (fun o _ => o = 219) m m' ∧ (∀ j, j < t → m'.1 219 (mb j) = nI (σ (mb j))) ∧ ∀ k, (∀ j, j < K → mb j ≠ k) → m'.1 219 k = m.1 219 k) Q 0 m (by omega) (by unfold FU; omega) ⟨Fm.rf, fun j hj => by omega, fun _ _ => rfl⟩ ?_ ?_
  · rintro f t m1 ht ⟨f1, a1, b1⟩ ih
    show Q (lb_Mo_best_42 Kt f (nI t) m1)
    unfold lb_Mo_best_42
    obtain ⟨c1, c2, c3⟩ := hmb t ht
    rw [show m1.1 200 29 = nI K by rw [f1 _ _ (by omega)]; exact h29, if_neg (nI_ge ht (by omega)), show ln 215 = 24 from rfl, rd_n (by omega) (by omega), show m1.1 215 t = nI (mb t) by rw [f1 _ _ (by omega)]; exact c2, show ln 217 = 24 from rfl, rd_n (by omega) (by omega), show m1.1 217 t = nI (σ (mb t)) by rw [f1 _ _ (by omega)]; exact c3, show ln 219 = 24 from rfl, wi_n (by omega) (by omega), bdE, nI_1]
    refine ih _ ⟨f1.wr' rfl, fun j hj => ?_, fun k hk => ?_⟩
    · rw [si1]
      by_cases z : mb j = mb t
      · rw [if_pos ⟨rfl, z⟩, z]
      · rw [if_neg (fun w => z w.2)]
        exact a1 j (by
          by_cases y : j = t
          · subst y; exact absurd rfl z
          · omega)
    · rw [si1, if_neg (fun w => hk t ht w.2.symm)]; exact b1 k hk
  · rintro f m1 ⟨f1, a1, b1⟩
    show Q (lb_Mo_best_42 Kt f (nI K) m1)
    unfold lb_Mo_best_42
    rw [show m1.1 200 29 = nI K by rw [f1 _ _ (by omega)]; exact h29, if_pos (nI_le (Nat.le_refl _) (by omega))]
    exact hKt m1 f1 a1 b1
set_option maxHeartbeats 1000000 in
theorem bestM {m : Me} {n d : Nat} {a : Ch} {C : Nat → Nat} {N : Nat} {Kt : Me → Option (Int32 × Me)} {Q : Option (Int32 × Me) → Prop} (hV : VV n d a) (hM : MM m n d a) (hO : FO m n d a) (hC : ∀ k, k < n → m.1 213 k = nI (C k)) (hCl : ∀ k, k < n → C k < N) (hN : N ≤ 24)
    (hno : (∃ p, p < N ∧ ∀ σ, ¬ VS n d a (Pp C p) σ) → ∀ m' : Me, Fm Sbm m m' → Q (some (-4, m')))
    (hK : ∀ (m' : Me) (g : Nat → Nat), (∀ p, p < N → ∃ W, LB n d a (Pp C p) g W) → (∀ k, k < n → m'.1 219 k = nI (g k)) → Fm Sbm m m' → Q (Kt m')) : Q ((fx (lb_Mo_best_24 (nI N) Kt) (fun _ _ => none) FU) 0 m) := by
  have h24 := hV.1
  refine up aM N (fun p m' => ∃ g : Nat → Nat, (∀ p', p' < p → ∃ W, LB n d a (Pp C p') g W) ∧ (∀ k, k < n → C k < p → m'.1 219 k = nI (g k)) ∧ Fm Sbm m m') Q 0 m (by omega) (by unfold FU; omega) ⟨fun _ => 0, fun p' h => by omega, fun k _ h => by omega, Fm.rf⟩ ?_ ?_
  · rintro f p m1 hp ⟨g, lb, gi, f1⟩ ih
    show Q (lb_Mo_best_24 (nI N) Kt f (nI p) m1)
    unfold lb_Mo_best_24
    have M1 : MM m1 n d a := hM.fr f1 (by unfold Sbm SBo SD; omega) (by unfold Sbm SBo SD; omega) (fun o j _ _ => by unfold Sbm SBo SD; omega)
    have O1 := hO.fr f1 (fun j => by unfold Sbm SBo SD; omega)
    obtain ⟨m2, f2, alt⟩ := bestOf_ok (m := m1) (C := C) (p := p) hV M1 O1 (fun k hk => ⟨by rw [f1 _ _ (by unfold Sbm SBo SD; omega)]; exact hC k hk, by have := hCl k hk; omega⟩) (by omega)
    have f12 : Fm Sbm m m2 := f1.tr (f2.mo (fun o j z => Or.inl z))
    rw [if_neg (nI_ge hp (by omega))]
    rcases alt with ⟨e2, no⟩ | ⟨σ, W, K, mb, e2, lbp, en, k29, K24, kk⟩
    · rw [e2, cI_s, if_pos rfl]
      exact hno ⟨p, hp, no⟩ m2 f12
    · rw [e2, cI_s, if_neg (by decide), bdE]
      have mn : ∀ j, j < K → mb j < n ∧ C (mb j) = p := fun j hj => by
        obtain ⟨u, u1, u2, u3⟩ := en.1 j hj
        rw [u2]; exact ⟨u1, of_decide_eq_true u3⟩
      refine best42 (σ := σ) h24 K24 k29 (fun j hj => ⟨(mn j hj).1, (kk j hj).1, (kk j hj).2.1⟩) ?_
      intro m3 f3 r1 r2
      rw [bdE, nI_1]
      obtain ⟨g', gs, gn⟩ : ∃ g' : Nat → Nat, (∀ k, C k = p → g' k = σ k) ∧ ∀ k, C k ≠ p → g' k = g k := ⟨fun k => if C k = p then σ k else g k, fun k h => if_pos h, fun k h => if_neg h⟩
      refine ih m3 ⟨g', fun p' hp' => ?_, fun k hk hk' => ?_, f12.tr (f3.mo (fun o j z => Or.inr z))⟩
      · by_cases z : p' = p
        · subst z
          exact ⟨W, LB_cg lbp (fun k hk hp => (gs k (of_decide_eq_true hp)).symm)⟩
        · obtain ⟨W', l'⟩ := lb p' (by omega)
          exact ⟨W', LB_cg l' (fun k hk hp => (gn k (by have := of_decide_eq_true hp; omega)).symm)⟩
      · by_cases z : C k = p
        · obtain ⟨j, hj, ej⟩ := en.2.1 k hk (decide_eq_true z)
          have ej : mb j = k := ej
          rw [gs k z, ← ej]
          exact r1 j hj
        · rw [gn k z, r2 k (fun j hj w => z (by rw [← w]; exact (mn j hj).2)), f2 _ _ (by unfold SBo SD; omega)]
          exact gi k hk (by omega)
  · rintro f m1 ⟨g, lb, gi, f1⟩
    show Q (lb_Mo_best_24 (nI N) Kt f (nI N) m1)
    unfold lb_Mo_best_24
    rw [if_pos (nI_le (Nat.le_refl _) (by omega))]
    exact hK m1 g lb (fun k hk => gi k hk (hCl k hk)) f1
theorem sum_add {f g : Nat → Nat} (N : Nat) : sumS (fun p => f p + g p) N = sumS f N + sumS g N := by
  induction N with
  | zero => rfl
  | succ N ih =>
    show sumS (fun p => f p + g p) N + (f N + g N) = (sumS f N + f N) + (sumS g N + g N)
    rw [ih]
    omega
theorem sum_ind {c w : Nat} (N : Nat) : sumS (fun p => if decide (c = p) = true then w else 0) N = if c < N then w else 0 := by
  induction N with
  | zero => rfl
  | succ N ih =>
    show sumS _ N + (if decide (c = N) = true then w else 0) = _
    rw [ih]
    by_cases e : c = N
    · subst e
      rw [if_neg (by omega), if_pos (by simp), if_pos (by omega)]
      omega
    · rw [if_neg (show ¬ decide (c = N) = true by simp [e])]
      by_cases l : c < N
      · rw [if_pos l, if_pos (by omega), Nat.add_zero]
      · rw [if_neg l, if_neg (by omega)]
theorem sum_ex {C w : Nat → Nat} {n N : Nat} (h : ∀ k, k < n → C k < N) : sumS (fun p => sumS (fun k => if decide (C k = p) = true then w k else 0) n) N = sumS w n := by
  induction n with
  | zero =>
    show sumS (fun _ => 0) N = 0
    induction N with
    | zero => rfl
    | succ N ih => show sumS (fun _ => 0) N + 0 = 0; rw [ih (fun k hk => by omega)]
  | succ n ih =>
    show sumS (fun p => sumS (fun k => if decide (C k = p) = true then w k else 0) n + (if decide (C n = p) = true then w n else 0)) N = sumS w n + w n
    rw [sum_add, ih (fun k hk => h k (by omega)), sum_ind, if_pos (h n (by omega))]
theorem best85 {m : Me} {n d : Nat} {a : Ch} {g : Nat → Nat} {Kt : Me → Option (Int32 × Me)} {Q : Option (Int32 × Me) → Prop} (hV : VV n d a) (hM : MM m n d a) (hg : ∀ k, k < n → m.1 219 k = nI (g k))
    (hK : ∀ m' : Me, Fm (fun o _ => o = 207) m m' → (∀ k, k < n → m'.1 207 k = nI (g k)) → Q (Kt m')) : Q ((fx (lb_Mo_best_85 Kt) (fun _ _ => none) FU) 0 m) := by
  have h24 := hV.1
  refine up aM n (fun t m' => Fm (fun o _ => o = 207) m m' ∧ ∀ k, k < t → m'.1 207 k = nI (g k)) Q 0 m (by omega) (by unfold FU; omega) ⟨Fm.rf, fun k hk => by omega⟩ ?_ ?_
  · rintro f t m1 ht ⟨f1, a1⟩ ih
    show Q (lb_Mo_best_85 Kt f (nI t) m1)
    unfold lb_Mo_best_85
    rw [show m1.1 200 1 = nI n by rw [f1 _ _ (by omega)]; exact hM.1, if_neg (nI_ge ht (by omega)), show ln 219 = 24 from rfl, rd_n (by omega) (by omega), show m1.1 219 t = nI (g t) by rw [f1 _ _ (by omega)]; exact hg t ht, show ln 207 = 24 from rfl, wi_n (by omega) (by omega), bdE, nI_1]
    refine ih _ ⟨f1.wr' rfl, fun k hk => ?_⟩
    rw [si1]
    by_cases z : k = t
    · rw [if_pos ⟨rfl, z⟩, z]
    · rw [if_neg (by omega)]; exact a1 k (by omega)
  · rintro f m1 ⟨f1, a1⟩
    show Q (lb_Mo_best_85 Kt f (nI n) m1)
    unfold lb_Mo_best_85
    rw [show m1.1 200 1 = nI n by rw [f1 _ _ (by omega)]; exact hM.1, if_pos (nI_le (Nat.le_refl _) (by omega))]
    exact hK m1 f1 a1
