/-! PURE PART: simple questions -/
theorem cP_s {α ρ : Type} (x : α) (K : α → Option ρ) : cP (some x) K = K x := rfl
theorem cI_s {α ρ : Type} (x : α) (m : Me) (K : α → Me → Option ρ) : cI (some (x, m)) K = K x m := rfl
def PairP (A : Option Int32) (B : Me → Option (Int32 × Me)) (m : Me) : Prop := ∃ r m2, A = some r ∧ B m = some (r, m2) ∧ Inv m2
theorem yes_b {b : Bool} {m : Me} : f_NC_yes (bI b) m = some (bI b) := by cases b <;> rfl
theorem Iv.inv {m : Me} {n d : Nat} {a : Ch} {e h : Nat} {H : Hs} (i : Iv m n d a e h H) : Inv m := ⟨n, d, a, e, h, H, i⟩
theorem c_chosen {m : Me} (hI' : Inv m) (x0 : Int32) : PairP (f_NC_chosen x0 m) (f_Mo_chosen x0) m := by
  obtain ⟨n, d, a, e, h, H, i⟩ := hI'
  obtain ⟨i1, i2, i3, -⟩ := id i
  obtain ⟨x, hx, rfl⟩ := arg x0
  have n24 := i1.1
  have j := i.m0
  unfold f_NC_chosen f_Mo_chosen
  simp only [bd]
  unfold PairP
  simp only []
  rw [has_eq hx n24 i2.1, name_eq hx n24 j.2.2.1.1]
  simp only [cP, bI_z]
  cases hb : nmB n x with
  | false => exact ⟨-3, _, rfl, rfl, j.inv⟩
  | true =>
    obtain ⟨ix, hix, rfl⟩ := nm_get hb
    have a7 := a7_le i1 hix
    rw [if_neg (by decide), if_neg (by decide), ← nI_i ix, show ln 17 = 24 from rfl, show ln 207 = 24 from rfl, rd_n (by omega) (by omega), rd_n (by omega) (by omega), rd_n (by omega) (by omega), show m.1 17 ix = hI (a 7 ix) from i2.2.2.2.1 ix hix, show (si m 200 0 0).1 207 ix = nI (a 7 ix) from j.2.2.1.2.2.1 7 ix (by omega) (by omega) hix]
    refine ⟨hI (a 7 ix), _, rfl, ?_, j.inv⟩
    by_cases c : a 7 ix = 16
    · rw [c]; rfl
    · rw [if_neg (show ¬ nI (a 7 ix) = (16 : Int32) from nI_ne (b := 16) (by omega) (by decide) c), hI_lt (by omega)]
theorem c_isOf {m : Me} (hI' : Inv m) (x0 y0 : Int32) : PairP (f_NC_isOf x0 y0 m) (f_Mo_isOf x0 y0) m := by
  obtain ⟨n, d, a, e, h, H, i⟩ := hI'
  obtain ⟨i1, i2, i3, -⟩ := id i
  obtain ⟨x, hx, rfl⟩ := arg x0
  obtain ⟨y, hy, rfl⟩ := arg y0
  have n24 := i1.1
  have j := i.m0
  unfold f_NC_isOf f_Mo_isOf
  simp only [bd]
  unfold PairP
  simp only []
  rw [has_eq hx n24 i2.1, name_eq hx n24 j.2.2.1.1]
  simp only [cP, bI_z]
  cases hb : nmB n x with
  | false => exact ⟨-3, _, rfl, rfl, j.inv⟩
  | true =>
    obtain ⟨ix, hix, rfl⟩ := nm_get hb
    rw [if_neg (by decide), if_neg (by decide), kind_eq hy, show f_Mo_in (iI y) 0 3 _ = _ from in_eq (lo := 0) (hi := 3) hy (by unfold Rng; omega) (by unfold Rng; omega)]
    simp only [bI_z]
    cases hk : decide (0 ≤ y ∧ y ≤ 3) with
    | false => exact ⟨-3, _, rfl, rfl, j.inv⟩
    | true =>
      obtain ⟨k, -, k3, rfl⟩ := in_get (lo := 0) (hi := 3) hk
      have h3 := (i1.2.2.1 ix hix).1.1
      rw [if_neg (by decide), if_neg (by decide), ← nI_i ix, ← nI_i k, isOfKind_eq i1 i2 hix k3]
      simp only [yes_b, show ln 201 = 24 from rfl, rd_n (show ix < 24 by omega) (show 24 < 2 ^ 31 by decide), show (si m 200 0 0).1 201 ix = nI (a 1 ix) from j.2.2.1.2.2.1 1 ix (by omega) (by omega) hix]
      refine ⟨bI (okB a ix k), _, rfl, ?_, j.inv⟩
      have e0 : (nI k = 0) ↔ k = 0 := nI_eq (b := 0) (by omega) (by decide)
      have e1 : (nI (a 1 ix) = nI k) ↔ a 1 ix = k := nI_eq (by omega) (by omega)
      have e2 : (nI k = (2 : Int32)) ↔ k = 2 := nI_eq (b := 2) (by omega) (by decide)
      have e3 : (nI (a 1 ix) = (3 : Int32)) ↔ a 1 ix = 3 := nI_eq (b := 3) (by omega) (by decide)
      simp only [e0, e1, e2, e3]
      unfold okB
      by_cases c0 : k = 0
      · rw [if_pos c0]; simp [c0]; rfl
      · rw [if_neg c0]
        by_cases c1 : a 1 ix = k
        · rw [if_pos c1]; simp [c1]; rfl
        · rw [if_neg c1]
          by_cases c2 : k = 2
          · rw [if_pos c2]
            by_cases c3 : a 1 ix = 3
            · rw [if_pos c3]; simp [c2, c3]; rfl
            · rw [if_neg c3]
              subst c2
              simp [c1, c3]; rfl
          · rw [if_neg c2]; simp [c0, c1, c2]; rfl
/-! worth -/
def sumS (f : Nat → Nat) : Nat → Nat
  | 0 => 0
  | k + 1 => sumS f k + f k
theorem sum_le {f : Nat → Nat} {B n : Nat} (h : ∀ k, k < n → f k ≤ B) : sumS f n ≤ B * n := by
  induction n with
  | zero => exact Nat.zero_le _
  | succ n ih =>
    have h1 := ih (fun k hk => h k (by omega))
    have h2 := h n (by omega)
    show sumS f n + f n ≤ B * (n + 1)
    rw [Nat.mul_succ]
    omega
theorem sum_cg {f g : Nat → Nat} {n : Nat} (h : ∀ k, k < n → f k = g k) : sumS f n = sumS g n := by
  induction n with
  | zero => rfl
  | succ n ih =>
    show sumS f n + f n = sumS g n + g n
    rw [ih (fun k hk => h k (by omega)), h n (by omega)]
def ghS (a : Ch) (k : Nat) : Nat := if a 7 k = 16 then 0 else gaS a k (a 7 k)
theorem worth_eq {m : Me} {n d : Nat} {a : Ch} (hV : VV n d a) (hC : CC m 10 n d a) : f_NC_worth m = some (nI (sumS (ghS a) n)) := by
  have h24 := hV.1
  unfold f_NC_worth
  refine up aV n (fun k s => s = nI (sumS (ghS a) k)) (fun r => r = some (nI (sumS (ghS a) n))) 0 0 (by omega) (by unfold FU; omega) rfl ?_ ?_
  · intro f k s hk hs ih
    have hs : s = nI (sumS (ghS a) k) := hs
    subst hs
    show lb_NC_worth_4 m f (nI (sumS (ghS a) k)) (nI k) = _
    unfold lb_NC_worth_4
    have w16 := waysS_le (a := a) (i := k)
    have e : sumS (ghS a) (k + 1) = sumS (ghS a) k + ghS a k := rfl
    rw [hC.1, if_neg (nI_ge hk (by omega)), show ln 17 = 24 from rfl, rd_n (by omega) (by omega)]
    simp only [bd, nI_1, rd_n (show k < 24 by omega) (show 24 < 2 ^ 31 by decide), show m.1 17 k = hI (a 7 k) from hC.2.2.2.1 k hk]
    by_cases c : a 7 k = 16
    · rw [c, if_pos (show hI 16 = (-1 : Int32) from rfl)]
      refine ih _ ?_
      rw [e, show ghS a k = 0 by unfold ghS; rw [if_pos c]]
      exact (nI_add _ 0)
    · have w := (hV.2.2.1 k hk).2
      rw [hI_lt (by omega), if_neg (nI_n1 (by omega)), gain_eq hV hC hk (by omega)]
      simp only [cP, nI_add]
      refine ih _ ?_
      rw [e, show ghS a k = gaS a k (a 7 k) by unfold ghS; rw [if_neg c]]
  · intro f s hs
    have hs : s = nI (sumS (ghS a) n) := hs
    subst hs
    show lb_NC_worth_4 m f (nI (sumS (ghS a) n)) (nI n) = _
    unfold lb_NC_worth_4
    rw [hC.1, if_pos (nI_le (Nat.le_refl _) (by omega))]
theorem moWorthIn_eq {m : Me} {n d : Nat} {a : Ch} (hV : VV n d a) (hM : MM m n d a) : f_Mo_worthInHand m = some (nI (sumS (ghS a) n)) := by
  have h24 := hV.1
  unfold f_Mo_worthInHand
  refine up aV n (fun k s => s = nI (sumS (ghS a) k)) (fun r => r = some (nI (sumS (ghS a) n))) 0 0 (by omega) (by unfold FU; omega) rfl ?_ ?_
  · intro f k s hk hs ih
    have hs : s = nI (sumS (ghS a) k) := hs
    subst hs
    show lb_Mo_worthInHand_4 m f (nI (sumS (ghS a) k)) (nI k) = _
    unfold lb_Mo_worthInHand_4
    have w16 := waysS_le (a := a) (i := k)
    have e : sumS (ghS a) (k + 1) = sumS (ghS a) k + ghS a k := rfl
    rw [hM.1, if_neg (nI_ge hk (by omega)), show ln 207 = 24 from rfl, rd_n (by omega) (by omega), show m.1 207 k = nI (a 7 k) from hM.2.2.1 7 k (by omega) (by omega) hk]
    by_cases c : a 7 k = 16
    · have e2 : f_Mo_worthOf (nI k) (nI (a 7 k)) m = some (nI 0) := by
        unfold f_Mo_worthOf
        rw [c]; rfl
      rw [e2]
      simp only [cP, bd, nI_1, nI_add]
      refine ih _ ?_
      rw [e, show ghS a k = 0 by unfold ghS; rw [if_pos c]]
    · have w := (hV.2.2.1 k hk).2
      rw [moWorth_eq hV hM hk (by omega)]
      simp only [cP, bd, nI_1, nI_add]
      refine ih _ ?_
      rw [e, show ghS a k = gaS a k (a 7 k) by unfold ghS; rw [if_neg c]]
  · intro f s hs
    have hs : s = nI (sumS (ghS a) n) := hs
    subst hs
    show lb_Mo_worthInHand_4 m f (nI (sumS (ghS a) n)) (nI n) = _
    unfold lb_Mo_worthInHand_4
    rw [hM.1, if_pos (nI_le (Nat.le_refl _) (by omega))]
theorem c_worth {m : Me} (hI' : Inv m) : PairP (f_NC_worth m) f_Mo_worth m := by
  obtain ⟨n, d, a, e, h, H, i⟩ := hI'
  obtain ⟨i1, i2, i3, -⟩ := id i
  have j := i.m0
  unfold f_Mo_worth
  simp only [bd]
  unfold PairP
  simp only []
  rw [worth_eq i1 i2, moWorthIn_eq i1 j.2.2.1]
  exact ⟨_, _, rfl, rfl, j.inv⟩
/-! way, clash -/
theorem c_way {m : Me} (hI' : Inv m) (x0 y0 z0 u0 : Int32) : PairI (f_NC_way x0 y0 z0 u0 m) (f_Mo_way x0 y0 z0 u0) := by
  obtain ⟨n, d, a, e, h, H, i⟩ := hI'
  obtain ⟨i1, i2, i3, i4, i5, i6, i7, i8, i9⟩ := id i
  obtain ⟨x, hx, rfl⟩ := arg x0
  obtain ⟨y, hy, rfl⟩ := arg y0
  obtain ⟨z, hz, rfl⟩ := arg z0
  obtain ⟨u, hu, rfl⟩ := arg u0
  have n24 := i1.1
  have inu : ∀ m', f_Mo_in (iI u) 0 5 m' = some (bI (decide (0 ≤ u ∧ u ≤ 5))) := fun m' => in_eq (lo := 0) (hi := 5) hu (by unfold Rng; omega) (by unfold Rng; omega)
  have inz : ∀ m', f_Mo_in (iI z) 0 6 m' = some (bI (decide (0 ≤ z ∧ z ≤ 6))) := fun m' => in_eq (lo := 0) (hi := 6) hz (by unfold Rng; omega) (by unfold Rng; omega)
  unfold f_NC_way
  rw [hasWay_eq hx hy i1 i2]
  simp only [cP, bI_z]
  have hmo : ∀ m1, Iv m1 n d a e h H → hwB n a x y = false → f_Mo_way (iI x) (iI y) (iI z) (iI u) m1 = some (-3, si m1 200 0 0) := by
    intro m1 j1 hb
    unfold f_Mo_way
    simp only [bd]
    rw [isWay_eq hx hy i1 (j1.m0).2.2.1]
    simp only [cP, bI_z]
    rw [hb, if_pos rfl]
  cases hb : hwB n a x y with
  | false =>
    rw [if_pos rfl]
    exact ⟨-3, m, _, rfl, hmo m i hb, i.m0.inv⟩
  | true =>
    obtain ⟨ix, w, hix, hw, rfl, rfl⟩ := hw_get hb
    have w16 := waysS_le (a := a) (i := ix)
    rw [if_neg (by decide), zoom_eq hz]
    simp only [bI_z]
    cases hzb : decide (0 ≤ z ∧ z ≤ 6) with
    | false =>
      rw [if_pos rfl]
      refine ⟨-3, m, si m 200 0 0, rfl, ?_, i.m0.inv⟩
      unfold f_Mo_way
      simp only [bd]
      rw [isWay_eq hx hy i1 (i.m0).2.2.1]
      simp only [cP, bI_z, inz]
      rw [hb, hzb, if_neg (by decide), if_pos rfl]
    | true =>
      obtain ⟨q, -, q6, rfl⟩ := in_get (lo := 0) (hi := 6) hzb
      have hN := (i1.2.2.1 ix hix).1
      rw [if_neg (by decide)]
      obtain ⟨m3, e3, B3, o3, -⟩ := lay_ok (m := m) (o := 1384) (a := a) (i := ix) (w := w) (z := q) (by omega) (by omega) (by omega) (by omega) hN (i2.nm hix) (kind_ne hw)
      have f3 : Fm (fun o _ => o = 1384) m m3 := fun o j w => by rw [o3 o (by omega)]
      have i3' : Iv m3 n d a e h H := i.cls f3 (fun o j w => by omega) (i7.fr i1 f3 (by omega) (fun o j _ => by omega)) (i8.fr f3 (fun o j _ => by omega)) (i9.fr f3 (fun o j _ => by omega))
      have j := i3'.m0
      obtain ⟨m5, e5, f5, b0, b1, b2, b3⟩ := moBox_eq (w := w) (z := q) i1 j.2.2.1 hix (by omega) (by omega)
      have j5 := j.fD f5
      have lay : f_Box_lay 1384 (iI (ix : Int)) (iI (w : Int)) (iI (q : Int)) m = some m3 := by rw [← nI_i, ← nI_i, ← nI_i]; exact e3
      have mbx : f_Mo_box (iI (ix : Int)) (iI (w : Int)) (iI (q : Int)) (si m3 200 0 0) = some m5 := by rw [← nI_i, ← nI_i, ← nI_i]; exact e5
      have wy := isWay_eq hx hy i1 j.2.2.1
      rw [lay]
      simp only []
      obtain ⟨B0, B1, B2, B3', -⟩ := id B3
      rw [B0, B1, B2, B3']
      have cu : ∀ k : Nat, k ≤ 8 → ((iI u = iI (k : Int)) ↔ u = k) := fun k hk => iI_eq hu.1 hu.2 (by omega) (by omega)
      have c0 : (iI u = (0 : Int32)) ↔ u = 0 := cu 0 (by omega)
      have c1 : (iI u = (1 : Int32)) ↔ u = 1 := cu 1 (by omega)
      have c2 : (iI u = (2 : Int32)) ↔ u = 2 := cu 2 (by omega)
      have c3 : (iI u = (3 : Int32)) ↔ u = 3 := cu 3 (by omega)
      have c4 : (iI u = (4 : Int32)) ↔ u = 4 := cu 4 (by omega)
      have c5 : (iI u = (5 : Int32)) ↔ u = 5 := cu 5 (by omega)
      simp only [c0, c1, c2, c3, c4, c5]
      have mo : ∀ r m', (∀ ub : 0 ≤ u ∧ u ≤ 5, (if u = 0 then some ((m5.1 200 16), m5) else if u = 1 then some ((m5.1 200 17), m5) else if u = 2 then some ((m5.1 200 18), m5) else if u = 3 then some ((m5.1 200 19), m5) else if u = 4 then cP (f_Mo_priceOf (iI (ix : Int)) (iI (w : Int)) m5) (fun r => some (r, m5)) else cI (f_Mo_isOpen (iI (ix : Int)) (iI (w : Int)) (iI (q : Int)) m5) (fun v7 m8 => (if v7 = 0 then some ((0 : Int32), m8) else some ((1 : Int32), m8)))) = some (r, m')) → (0 ≤ u ∧ u ≤ 5) → f_Mo_way (iI (ix : Int)) (iI (w : Int)) (iI (q : Int)) (iI u) m3 = some (r, m') := by
        intro r m' hh ub
        unfold f_Mo_way
        simp only [bd]
        rw [wy]
        simp only [cP_s, bI_z, inz, inu]
        rw [hb, hzb, decide_eq_true ub, if_neg (by decide), if_neg (by decide), if_neg (by decide), mbx]
        simp only [cP_s, c0, c1, c2, c3, c4]
        exact hh ub
      by_cases u0 : u = 0
      · rw [if_pos u0]
        exact ⟨_, m3, m5, rfl, mo _ _ (fun _ => by rw [if_pos u0, b0]) (by omega), j5.inv⟩
      · rw [if_neg u0]
        by_cases u1 : u = 1
        · rw [if_pos u1]
          exact ⟨_, m3, m5, rfl, mo _ _ (fun _ => by rw [if_neg u0, if_pos u1, b1]) (by omega), j5.inv⟩
        · rw [if_neg u1]
          by_cases u2 : u = 2
          · rw [if_pos u2]
            refine ⟨_, m3, m5, rfl, mo _ _ (fun _ => ?_) (by omega), j5.inv⟩
            rw [if_neg u0, if_neg u1, if_pos u2, b2, iI_sub, nI_i]
            congr 3
            omega
          · rw [if_neg u2]
            by_cases u3 : u = 3
            · rw [if_pos u3]
              refine ⟨_, m3, m5, rfl, mo _ _ (fun _ => ?_) (by omega), j5.inv⟩
              rw [if_neg u0, if_neg u1, if_neg u2, if_pos u3, b3, iI_sub, nI_i]
              congr 3
              omega
            · rw [if_neg u3]
              by_cases u4 : u = 4
              · rw [if_pos u4, ← nI_i, ← nI_i, price_eq i1 i3'.2.1 hix (by omega)]
                refine ⟨_, m3, m5, rfl, ?_, j5.inv⟩
                have := mo (nI (prS a ix w)) m5 (fun _ => by rw [if_neg u0, if_neg u1, if_neg u2, if_neg u3, if_pos u4, ← nI_i, ← nI_i, moPrice_eq i1 j5.2.2.1 hix (by omega)]; rfl) (by omega)
                rw [← nI_i, ← nI_i] at this
                exact this
              · rw [if_neg u4]
                by_cases u5 : u = 5
                · rw [if_pos u5, ← nI_i q, isOpen_eq i1 i3'.2.1 hix (by omega) B3]
                  simp only [yes_b]
                  obtain ⟨m6, e6, f6⟩ := moOpen_eq (w := w) (z := q) i1 j5.2.2.1 hix (by omega) (by omega)
                  refine ⟨_, m3, m6, rfl, ?_, (j5.fD f6).inv⟩
                  have := mo (bI (opB n d a ix w q)) m6 (fun _ => by
                    rw [if_neg u0, if_neg u1, if_neg u2, if_neg u3, if_neg u4, ← nI_i, ← nI_i, ← nI_i, e6]
                    simp only [cI_s, bI_z]
                    cases opB n d a ix w q <;> rfl) (by omega)
                  rw [← nI_i q] at this
                  exact this
                · rw [if_neg u5]
                  refine ⟨-3, m3, si m3 200 0 0, rfl, ?_, j.inv⟩
                  unfold f_Mo_way
                  simp only [bd]
                  rw [wy]
                  simp only [cP, cI, bI_z, inz, inu]
                  rw [hb, hzb, decide_eq_false (show ¬ (0 ≤ u ∧ u ≤ 5) by omega), if_neg (by decide), if_neg (by decide), if_pos rfl]
theorem c_clash {m : Me} (hI' : Inv m) (x0 y0 z0 u0 v0 : Int32) : PairI (f_NC_clash x0 y0 z0 u0 v0 m) (f_Mo_clash x0 y0 z0 u0 v0) := by
  obtain ⟨n, d, a, e, h, H, i⟩ := hI'
  obtain ⟨i1, i2, i3, i4, i5, i6, i7, i8, i9⟩ := id i
  obtain ⟨x, hx, rfl⟩ := arg x0
  obtain ⟨y, hy, rfl⟩ := arg y0
  obtain ⟨z, hz, rfl⟩ := arg z0
  obtain ⟨u, hu, rfl⟩ := arg u0
  obtain ⟨v, hv, rfl⟩ := arg v0
  have n24 := i1.1
  have inv : ∀ m', f_Mo_in (iI v) 0 6 m' = some (bI (decide (0 ≤ v ∧ v ≤ 6))) := fun m' => in_eq (lo := 0) (hi := 6) hv (by unfold Rng; omega) (by unfold Rng; omega)
  have w1 : ∀ m1, Iv m1 n d a e h H → f_Mo_isWay (iI x) (iI y) m1 = some (bI (hwB n a x y)) := fun m1 j => isWay_eq hx hy i1 j.2.2.1
  have w2 : ∀ m1, Iv m1 n d a e h H → f_Mo_isWay (iI z) (iI u) m1 = some (bI (hwB n a z u)) := fun m1 j => isWay_eq hz hu i1 j.2.2.1
  have exz : (iI x = iI z) ↔ x = z := iI_eq hx.1 hx.2 hz.1 hz.2
  have mo : ∀ m1, Iv m1 n d a e h H → f_Mo_clash (iI x) (iI y) (iI z) (iI u) (iI v) m1 = (if hwB n a x y = false then some ((-3 : Int32), si m1 200 0 0) else if hwB n a z u = false then some ((-3 : Int32), si m1 200 0 0) else if x = z then some ((-3 : Int32), si m1 200 0 0) else if decide (0 ≤ v ∧ v ≤ 6) = false then some ((-3 : Int32), si m1 200 0 0) else cI (f_Mo_doClash (iI x) (iI y) (iI z) (iI u) (iI v) (si m1 200 0 0)) (fun v5 m6 => if v5 = 0 then some ((0 : Int32), m6) else some ((1 : Int32), m6))) := by
    intro m1 j1
    unfold f_Mo_clash
    simp only [bd]
    rw [w1 _ j1.m0]
    simp only [cP, bI_z]
    rw [w2 _ j1.m0]
    simp only [bI_z, inv, exz]
  unfold f_NC_clash
  rw [hasWay_eq hx hy i1 i2]
  simp only [cP, bI_z]
  rw [hasWay_eq hz hu i1 i2]
  simp only [bI_z, exz, zoom_eq hv]
  have m0 := mo m i
  cases hb : hwB n a x y with
  | false =>
    rw [hb, if_pos rfl] at m0
    exact ⟨-3, m, _, rfl, m0, i.m0.inv⟩
  | true =>
    rw [hb, if_neg (by decide)] at m0
    rw [if_neg (by decide)]
    cases hb2 : hwB n a z u with
    | false =>
      rw [hb2, if_pos rfl] at m0
      exact ⟨-3, m, _, rfl, m0, i.m0.inv⟩
    | true =>
      rw [hb2, if_neg (by decide)] at m0
      rw [if_neg (by decide)]
      by_cases q : x = z
      · rw [if_pos q] at m0
        rw [if_pos q]
        exact ⟨-3, m, _, rfl, m0, i.m0.inv⟩
      · rw [if_neg q] at m0
        rw [if_neg q]
        cases hzb : decide (0 ≤ v ∧ v ≤ 6) with
        | false =>
          rw [hzb, if_pos rfl] at m0
          exact ⟨-3, m, _, rfl, m0, i.m0.inv⟩
        | true =>
          rw [if_neg (by decide)]
          obtain ⟨ix, w, hix, hw, rfl, rfl⟩ := hw_get hb
          obtain ⟨jx, t, hjx, ht, rfl, rfl⟩ := hw_get hb2
          obtain ⟨r, -, q6, rfl⟩ := in_get (lo := 0) (hi := 6) hzb
          have g1 := waysS_le (a := a) (i := ix)
          have g2 := waysS_le (a := a) (i := jx)
          have hN := (i1.2.2.1 ix hix).1
          have hN2 := (i1.2.2.1 jx hjx).1
          obtain ⟨m3, e3, B3, o3, -⟩ := lay_ok (m := m) (o := 1384) (a := a) (i := ix) (w := w) (z := r) (by omega) (by omega) (by omega) (by omega) hN (i2.nm hix) (kind_ne hw)
          have f3 : Fm (fun o _ => o = 1384 ∨ o = 1385) m m3 := fun o j w => by rw [o3 o (by omega)]
          have C3 := i2.fr f3 (fun o j _ _ => by omega)
          obtain ⟨m4, e4, B4, o4, -⟩ := lay_ok (m := m3) (o := 1385) (a := a) (i := jx) (w := t) (z := r) (by omega) (by omega) (by omega) (by omega) hN2 (C3.nm hjx) (kind_ne ht)
          have f4 : Fm (fun o _ => o = 1384 ∨ o = 1385) m m4 := f3.tr (fun o j w => by rw [o4 o (by omega)])
          have i4' : Iv m4 n d a e h H := i.cls f4 (fun o j w => by omega) (i7.fr i1 f4 (by omega) (fun o j _ => by omega)) (i8.fr f4 (fun o j _ => by omega)) (i9.fr f4 (fun o j _ => by omega))
          have B3' : BoxAt m4 1384 a ix w r := B3.same (fun j => by rw [o4 1384 (by omega)])
          obtain ⟨m5, e5, f5⟩ := doClash_eq (z := r) i1 (i4'.m0).2.2.1 hix hjx (show w < 16 by omega) (show t < 16 by omega) (by omega)
          rw [show f_Box_lay 1384 (iI (ix : Int)) (iI (w : Int)) (iI (r : Int)) m = some m3 by rw [← nI_i, ← nI_i, ← nI_i]; exact e3]
          simp only []
          rw [show f_Box_lay 1385 (iI (jx : Int)) (iI (t : Int)) (iI (r : Int)) m3 = some m4 by rw [← nI_i, ← nI_i, ← nI_i]; exact e4]
          simp only []
          rw [hits_eq (by omega) hN hN2 B3' B4]
          simp only [yes_b]
          refine ⟨_, m4, m5, rfl, ?_, ((i4'.m0).fD f5).inv⟩
          rw [mo m4 i4', hb, hb2, hzb, if_neg (by decide), if_neg (by decide), if_neg q, if_neg (by decide), show f_Mo_doClash (iI (ix : Int)) (iI (w : Int)) (iI (jx : Int)) (iI (t : Int)) (iI (r : Int)) (si m4 200 0 0) = some (bI (clB a ix w jx t r), m5) by rw [← nI_i, ← nI_i, ← nI_i, ← nI_i, ← nI_i]; exact e5]
          simp only [cI, bI_z]
          cases clB a ix w jx t r <;> rfl
