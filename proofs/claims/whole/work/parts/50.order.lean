/-! PURE PART: the order in which names are served, on both sides -/
def muB (a : Ch) (x : Nat) : Bool := decide (a 1 x = 3)
def ahB (a : Ch) (x y : Nat) : Bool := if muB a x = muB a y then decide (a 6 y < a 6 x) else muB a x
def pS (ah : Nat → Bool) : Nat → Nat
  | 0 => 0
  | t + 1 => if ah t = true then pS ah t else t + 1
def insS (L : Nat → Nat) (x p : Nat) : Nat → Nat := fun j => if j < p then L j else if j = p then x else L (j - 1)
def qS (a : Ch) : Nat → Nat → Nat
  | 0 => fun _ => 0
  | x + 1 => insS (qS a x) x (pS (fun t => ahB a x (qS a x t)) x)
theorem pS_le (ah : Nat → Bool) (t : Nat) : pS ah t ≤ t := by
  induction t with
  | zero => exact Nat.le_refl _
  | succ t ih =>
    show (if ah t = true then pS ah t else t + 1) ≤ t + 1
    split <;> omega
theorem qS_lt {a : Ch} {x j : Nat} (h : j < x) : qS a x j < x := by
  induction x generalizing j with
  | zero => omega
  | succ x ih =>
    have p := pS_le (fun t => ahB a x (qS a x t)) x
    show insS (qS a x) x _ j < x + 1
    unfold insS
    split
    · have := ih (j := j) (by omega); omega
    · split
      · omega
      · have := ih (j := j - 1) (by omega); omega
theorem qS_sur {a : Ch} {x i : Nat} (h : i < x) : ∃ j, j < x ∧ qS a x j = i := by
  induction x generalizing i with
  | zero => omega
  | succ x ih =>
    have p := pS_le (fun t => ahB a x (qS a x t)) x
    have e : ∀ j, qS a (x + 1) j = insS (qS a x) x (pS (fun t => ahB a x (qS a x t)) x) j := fun j => rfl
    generalize pS (fun t => ahB a x (qS a x t)) x = P at *
    by_cases q : i = x
    · refine ⟨P, by omega, ?_⟩
      rw [e]
      unfold insS
      rw [if_neg (by omega), if_pos rfl, q]
    · obtain ⟨j, hj, ej⟩ := ih (i := i) (by omega)
      by_cases c : j < P
      · refine ⟨j, by omega, ?_⟩
        rw [e]
        unfold insS
        rw [if_pos c]
        exact ej
      · refine ⟨j + 1, by omega, ?_⟩
        rw [e]
        unfold insS
        rw [if_neg (by omega), if_neg (by omega), Nat.add_sub_cancel]
        exact ej
theorem qS_inj {a : Ch} {x j k : Nat} (hj : j < x) (hk : k < x) (h : qS a x j = qS a x k) : j = k := by
  induction x generalizing j k with
  | zero => omega
  | succ x ih =>
    have p := pS_le (fun t => ahB a x (qS a x t)) x
    have e : ∀ j, qS a (x + 1) j = insS (qS a x) x (pS (fun t => ahB a x (qS a x t)) x) j := fun j => rfl
    rw [e, e] at h
    generalize pS (fun t => ahB a x (qS a x t)) x = P at *
    have lt : ∀ j, j < x → qS a x j < x := fun j hj => qS_lt hj
    unfold insS at h
    split at h
    · split at h
      · exact ih (by omega) (by omega) h
      · split at h
        · have := lt j (by omega); omega
        · have := ih (j := j) (k := k - 1) (by omega) (by omega) h; omega
    · split at h
      · split at h
        · have := lt k (by omega); omega
        · split at h
          · omega
          · have := lt (k - 1) (by omega); omega
      · split at h
        · have := ih (j := j - 1) (k := k) (by omega) (by omega) h; omega
        · split at h
          · have := lt (j - 1) (by omega); omega
          · have := ih (j := j - 1) (k := k - 1) (by omega) (by omega) h; omega
theorem ahead_aux {a : Ch} {n d : Nat} {x y : Nat} (hV : VV n d a) (hx : x < n) (hy : y < n) {A B : Option Int32} (hA : A = some (bI (decide (a 6 y < a 6 x)))) (hB : ∀ b : Bool, B = some (bI b) → True) :
    (bd (fun (v2 : Int32) => bd (fun (v4 : Int32) => if v2 = v4 then A else zg v2 v2) (fun k32_ => if nI (a 1 y) = (3 : Int32) then (k32_ (1 : Int32)) else (k32_ (0 : Int32)))) (fun k15_ => if nI (a 1 x) = (3 : Int32) then (k15_ (1 : Int32)) else (k15_ (0 : Int32)))) = some (bI (ahB a x y)) := by
  have h1 := (hV.2.2.1 x hx).1.1
  have h2 := (hV.2.2.1 y hy).1.1
  unfold ahB muB
  simp only [bd]
  have e1 : (nI (a 1 x) = (3 : Int32)) ↔ a 1 x = 3 := nI_eq (b := 3) (by omega) (by decide)
  have e2 : (nI (a 1 y) = (3 : Int32)) ↔ a 1 y = 3 := nI_eq (b := 3) (by omega) (by decide)
  by_cases c1 : a 1 x = 3
  · rw [if_pos (e1.mpr c1)]
    by_cases c2 : a 1 y = 3
    · rw [if_pos (e2.mpr c2), if_pos trivial, hA]
      simp [c1, c2]
    · rw [if_neg (fun q => c2 (e2.mp q)), if_neg (by decide)]
      simp [c1, c2]
      rfl
  · rw [if_neg (fun q => c1 (e1.mp q))]
    by_cases c2 : a 1 y = 3
    · rw [if_pos (e2.mpr c2), if_neg (by decide)]
      simp [c1, c2]
      rfl
    · rw [if_neg (fun q => c2 (e2.mp q)), if_pos trivial, hA]
      simp [c1, c2]
theorem ahead_eq {m : Me} {n d : Nat} {a : Ch} {x y : Nat} (hV : VV n d a) (hC : CC m 10 n d a) (hx : x < n) (hy : y < n) : f_Chart_isServedAhead (nI x) (nI y) m = some (bI (ahB a x y)) := by
  have h24 := hV.1
  obtain ⟨-, -, -, -, -, -, -, -, wx⟩ := (hV.2.2.1 x hx).1
  obtain ⟨-, -, -, -, -, -, -, -, wy⟩ := (hV.2.2.1 y hy).1
  unfold f_Chart_isServedAhead
  rw [show ln 11 = 24 from rfl, rd_n (by omega) (by omega), (hC.nm hx).1]
  simp only [rd_n (show y < 24 by omega) (show 24 < 2 ^ 31 by decide), rd_n (show x < 24 by omega) (show 24 < 2 ^ 31 by decide), show ln 16 = 24 from rfl, (hC.nm hy).1, show m.1 16 x = nI (a 6 x) from hC.2.2.1 6 x (by omega) (by omega) hx, show m.1 16 y = nI (a 6 y) from hC.2.2.1 6 y (by omega) (by omega) hy]
  refine ahead_aux hV hx hy (B := none) ?_ (fun _ _ => trivial)
  by_cases c : a 6 y < a 6 x
  · rw [if_neg (nI_ge c (by omega)), decide_eq_true c]; rfl
  · rw [if_pos (nI_le (by omega) (by omega)), decide_eq_false c]; rfl
theorem moAhead_eq {m : Me} {n d : Nat} {a : Ch} {x y : Nat} (hV : VV n d a) (hM : MM m n d a) (hx : x < n) (hy : y < n) (hxy : y ≤ x) : f_Mo_isAhead (nI x) (nI y) m = some (bI (ahB a x y)) := by
  have h24 := hV.1
  obtain ⟨-, -, -, -, -, -, -, -, wx⟩ := (hV.2.2.1 x hx).1
  obtain ⟨-, -, -, -, -, -, -, -, wy⟩ := (hV.2.2.1 y hy).1
  unfold f_Mo_isAhead
  rw [show ln 201 = 24 from rfl, rd_n (by omega) (by omega), (hM.nm hx).1]
  simp only [rd_n (show y < 24 by omega) (show 24 < 2 ^ 31 by decide), rd_n (show x < 24 by omega) (show 24 < 2 ^ 31 by decide), show ln 206 = 24 from rfl, (hM.nm hy).1, show m.1 206 x = nI (a 6 x) from hM.2.2.1 6 x (by omega) (by omega) hx, show m.1 206 y = nI (a 6 y) from hM.2.2.1 6 y (by omega) (by omega) hy]
  refine ahead_aux hV hx hy (B := none) ?_ (fun _ _ => trivial)
  by_cases q : a 6 x = a 6 y
  · rw [if_pos (by rw [q]), if_pos (nI_le hxy (by omega)), decide_eq_false (by omega)]; rfl
  · rw [if_neg (nI_ne (by omega) (by omega) q)]
    by_cases c : a 6 y < a 6 x
    · rw [if_neg (nI_ge c (by omega)), decide_eq_true c]; rfl
    · rw [if_pos (nI_le (by omega) (by omega)), decide_eq_false c]; rfl
set_option maxHeartbeats 1000000 in
theorem queue_ok {m : Me} {n d : Nat} {a : Ch} {o : Nat} (ho : o = 108 ∨ o = 110) (hV : VV n d a) (hC : CC m 10 n d a) :
    ∃ m', f_Chart_queue o m = some m' ∧ (∀ j, j < n → m'.1 o j = nI (qS a n j)) ∧ Fm (fun x _ => x = o) m m' := by
  have h24 := hV.1
  have hl : ln o = 24 := by rcases ho with rfl | rfl <;> rfl
  have C' : ∀ m', Fm (fun x _ => x = o) m m' → CC m' 10 n d a := fun m' f => hC.fr f (fun o j _ _ => by omega)
  unfold f_Chart_queue
  refine up aM n (fun k m' => Fm (fun x _ => x = o) m m' ∧ ∀ j, j < k → m'.1 o j = nI (qS a k j)) (fun r => ∃ m', r = some m' ∧ (∀ j, j < n → m'.1 o j = nI (qS a n j)) ∧ Fm (fun x _ => x = o) m m') 0 m (by omega) (by unfold FU; omega) ⟨Fm.rf, fun j hj => by omega⟩ ?_ ?_
  · rintro f x m1 hx ⟨f1, h1⟩ ih
    show ∃ m', lb_Chart_queue_2 o f (nI x) m1 = some m' ∧ _
    unfold lb_Chart_queue_2
    rw [(C' m1 f1).1, if_neg (nI_ge hx (by omega))]
    simp only [bd]
    refine dn aM (fun t m' => t ≤ x ∧ Fm (fun x _ => x = o) m m' ∧ (∀ j, j < t → m'.1 o j = nI (qS a x j)) ∧ (∀ j, t < j → j ≤ x → m'.1 o j = nI (qS a x (j - 1))) ∧ pS (fun t => ahB a x (qS a x t)) x = pS (fun t => ahB a x (qS a x t)) t) (fun r => ∃ m', r = some m' ∧ (∀ j, j < n → m'.1 o j = nI (qS a n j)) ∧ Fm (fun x _ => x = o) m m') x m1 (by unfold FU; omega) ⟨Nat.le_refl _, f1, h1, fun j q1 q2 => by omega, rfl⟩ ?_ ?_
    · rintro g t m2 ⟨tx, f2, a2, b2, c2⟩ ih2
      have fin : ∀ (P : Prop), pS (fun t => ahB a x (qS a x t)) x = t + 1 → ∃ m', (wi m2 o 24 (nI (t + 1)) (nI x) (fun m5 => f (nI x + 1) m5)) = some m' ∧ (∀ j, j < n → m'.1 o j = nI (qS a n j)) ∧ Fm (fun x _ => x = o) m m' := by
        intro _ hp
        rw [wi_n (by omega) (by omega), nI_1]
        refine ih _ ⟨f2.wr' rfl, fun j hj => ?_⟩
        show _ = nI (insS (qS a x) x (pS (fun t => ahB a x (qS a x t)) x) j)
        rw [hp]
        unfold insS
        rw [si1]
        by_cases q : j = t + 1
        · rw [if_pos ⟨rfl, q⟩, if_neg (by omega), if_pos q]
        · rw [if_neg (by omega)]
          by_cases q2 : j < t + 1
          · rw [if_pos q2]; exact a2 j q2
          · rw [if_neg q2, if_neg q]; exact b2 j (by omega) (by omega)
      have lq := qS_lt (a := a) (x := x) (j := t) (by omega)
      show ∃ m', lb_Chart_queue_12 o (nI x) _ g (nI (t + 1)) m2 = some m' ∧ _
      unfold lb_Chart_queue_12
      rw [if_neg (nI_nle (by omega) (by omega)), nI_pred, show ln o = 24 from hl, rd_n (by omega) (by omega), a2 t (by omega), ahead_eq hV (C' m2 f2) hx (by omega)]
      simp only [cP, bI_z]
      have ep : pS (fun t => ahB a x (qS a x t)) (t + 1) = if ahB a x (qS a x t) = true then pS (fun t => ahB a x (qS a x t)) t else t + 1 := rfl
      cases ha : ahB a x (qS a x t) with
      | false =>
        rw [if_pos rfl]
        rw [ha, if_neg (by decide)] at ep
        exact fin True (c2.trans ep)
      | true =>
        rw [ha, if_pos rfl] at ep
        rw [if_neg (by decide), rd_n (by omega) (by omega), a2 t (by omega), wi_n (by omega) (by omega)]
        rw [show nI (t + 1) + Int32.ofInt (-1) = nI t from pk_m1 t]
        refine ih2 _ ⟨by omega, f2.wr' rfl, fun j hj => ?_, fun j q1 q2 => ?_, c2.trans ep⟩
        · rw [si1, if_neg (by omega)]; exact a2 j (by omega)
        · rw [si1]
          by_cases q : j = t + 1
          · subst q
            rw [if_pos ⟨rfl, rfl⟩]
            rfl
          · rw [if_neg (by omega)]; exact b2 j (by omega) q2
    · rintro g m2 ⟨tx, f2, a2, b2, c2⟩
      show ∃ m', lb_Chart_queue_12 o (nI x) _ g (nI 0) m2 = some m' ∧ _
      unfold lb_Chart_queue_12
      rw [if_pos (show nI 0 ≤ 0 by decide), show ln o = 24 from hl]
      simp only []
      rw [wi_n (by omega) (by omega), nI_1]
      refine ih _ ⟨f2.wr' rfl, fun j hj => ?_⟩
      show _ = nI (insS (qS a x) x (pS (fun t => ahB a x (qS a x t)) x) j)
      rw [c2]
      show _ = nI (insS (qS a x) x 0 j)
      unfold insS
      rw [si1]
      by_cases q : j = 0
      · rw [if_pos ⟨rfl, q⟩, if_neg (by omega), if_pos q]
      · rw [if_neg (by omega), if_neg (by omega), if_neg q]
        exact b2 j (by omega) (by omega)
  · rintro f m1 ⟨f1, h1⟩
    show ∃ m', lb_Chart_queue_2 o f (nI n) m1 = some m' ∧ _
    unfold lb_Chart_queue_2
    rw [(C' m1 f1).1, if_pos (nI_le (Nat.le_refl _) (by omega))]
    exact ⟨m1, rfl, h1, f1⟩
set_option maxHeartbeats 1000000 in
theorem order_ok {m : Me} {n d : Nat} {a : Ch} (hV : VV n d a) (hC : MM m n d a) :
    ∃ m', f_Mo_findOrder m = some m' ∧ (∀ j, j < n → m'.1 220 j = nI (qS a n j)) ∧ Fm (fun x _ => x = 220) m m' := by
  have h24 := hV.1
  have C' : ∀ m', Fm (fun x _ => x = 220) m m' → MM m' n d a := fun m' f => hC.fr f (by omega) (by omega) (fun o j _ _ => by omega)
  unfold f_Mo_findOrder
  refine up aM n (fun k m' => Fm (fun x _ => x = 220) m m' ∧ ∀ j, j < k → m'.1 220 j = nI (qS a k j)) (fun r => ∃ m', r = some m' ∧ (∀ j, j < n → m'.1 220 j = nI (qS a n j)) ∧ Fm (fun x _ => x = 220) m m') 0 m (by omega) (by unfold FU; omega) ⟨Fm.rf, fun j hj => by omega⟩ ?_ ?_
  · rintro f x m1 hx ⟨f1, h1⟩ ih
    show ∃ m', lb_Mo_findOrder_2 f (nI x) m1 = some m' ∧ _
    unfold lb_Mo_findOrder_2
    rw [(C' m1 f1).1, if_neg (nI_ge hx (by omega))]
    simp only [bd]
    refine dn aM (fun t m' => t ≤ x ∧ Fm (fun x _ => x = 220) m m' ∧ (∀ j, j < t → m'.1 220 j = nI (qS a x j)) ∧ (∀ j, t < j → j ≤ x → m'.1 220 j = nI (qS a x (j - 1))) ∧ pS (fun t => ahB a x (qS a x t)) x = pS (fun t => ahB a x (qS a x t)) t) (fun r => ∃ m', r = some m' ∧ (∀ j, j < n → m'.1 220 j = nI (qS a n j)) ∧ Fm (fun x _ => x = 220) m m') x m1 (by unfold FU; omega) ⟨Nat.le_refl _, f1, h1, fun j q1 q2 => by omega, rfl⟩ ?_ ?_
    · rintro g t m2 ⟨tx, f2, a2, b2, c2⟩ ih2
      have fin : ∀ (P : Prop), pS (fun t => ahB a x (qS a x t)) x = t + 1 → ∃ m', (wi m2 220 24 (nI (t + 1)) (nI x) (fun m5 => f (nI x + 1) m5)) = some m' ∧ (∀ j, j < n → m'.1 220 j = nI (qS a n j)) ∧ Fm (fun x _ => x = 220) m m' := by
        intro _ hp
        rw [wi_n (by omega) (by omega), nI_1]
        refine ih _ ⟨f2.wr' rfl, fun j hj => ?_⟩
        show _ = nI (insS (qS a x) x (pS (fun t => ahB a x (qS a x t)) x) j)
        rw [hp]
        unfold insS
        rw [si1]
        by_cases q : j = t + 1
        · rw [if_pos ⟨rfl, q⟩, if_neg (by omega), if_pos q]
        · rw [if_neg (by omega)]
          by_cases q2 : j < t + 1
          · rw [if_pos q2]; exact a2 j q2
          · rw [if_neg q2, if_neg q]; exact b2 j (by omega) (by omega)
      have lq := qS_lt (a := a) (x := x) (j := t) (by omega)
      show ∃ m', lb_Mo_findOrder_12 (nI x) _ g (nI (t + 1)) m2 = some m' ∧ _
      unfold lb_Mo_findOrder_12
      rw [if_neg (nI_nle (by omega) (by omega)), nI_pred, show ln 220 = 24 from rfl, rd_n (by omega) (by omega), a2 t (by omega), moAhead_eq hV (C' m2 f2) hx (by omega) (by omega)]
      simp only [cP, bI_z]
      have ep : pS (fun t => ahB a x (qS a x t)) (t + 1) = if ahB a x (qS a x t) = true then pS (fun t => ahB a x (qS a x t)) t else t + 1 := rfl
      cases ha : ahB a x (qS a x t) with
      | false =>
        rw [if_pos rfl]
        rw [ha, if_neg (by decide)] at ep
        exact fin True (c2.trans ep)
      | true =>
        rw [ha, if_pos rfl] at ep
        rw [if_neg (by decide), rd_n (by omega) (by omega), a2 t (by omega), wi_n (by omega) (by omega)]
        rw [show nI (t + 1) + Int32.ofInt (-1) = nI t from pk_m1 t]
        refine ih2 _ ⟨by omega, f2.wr' rfl, fun j hj => ?_, fun j q1 q2 => ?_, c2.trans ep⟩
        · rw [si1, if_neg (by omega)]; exact a2 j (by omega)
        · rw [si1]
          by_cases q : j = t + 1
          · subst q
            rw [if_pos ⟨rfl, rfl⟩]
            rfl
          · rw [if_neg (by omega)]; exact b2 j (by omega) q2
    · rintro g m2 ⟨tx, f2, a2, b2, c2⟩
      show ∃ m', lb_Mo_findOrder_12 (nI x) _ g (nI 0) m2 = some m' ∧ _
      unfold lb_Mo_findOrder_12
      rw [if_pos (show nI 0 ≤ 0 by decide), show ln 220 = 24 from rfl]
      simp only []
      rw [wi_n (by omega) (by omega), nI_1]
      refine ih _ ⟨f2.wr' rfl, fun j hj => ?_⟩
      show _ = nI (insS (qS a x) x (pS (fun t => ahB a x (qS a x t)) x) j)
      rw [c2]
      show _ = nI (insS (qS a x) x 0 j)
      unfold insS
      rw [si1]
      by_cases q : j = 0
      · rw [if_pos ⟨rfl, q⟩, if_neg (by omega), if_pos q]
      · rw [if_neg (by omega), if_neg (by omega), if_neg q]
        exact b2 j (by omega) (by omega)
  · rintro f m1 ⟨f1, h1⟩
    show ∃ m', lb_Mo_findOrder_2 f (nI n) m1 = some m' ∧ _
    unfold lb_Mo_findOrder_2
    rw [(C' m1 f1).1, if_pos (nI_le (Nat.le_refl _) (by omega))]
    exact ⟨m1, rfl, h1, f1⟩
