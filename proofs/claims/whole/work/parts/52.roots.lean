/-! PURE PART: parts, as numbers; the class's side -/
def jnS (tc : Nat → Nat → Bool) (R : Nat → Nat) (x y : Nat) : Nat → Nat := if R x ≠ R y ∧ tc x y = true then (fun k => if R k = max (R x) (R y) then min (R x) (R y) else R k) else R
def rowS (tc : Nat → Nat → Bool) (x : Nat) : Nat → (Nat → Nat) → Nat → Nat
  | 0, R => R
  | y + 1, R => jnS tc (rowS tc x y R) x y
def rtS (tc : Nat → Nat → Bool) : Nat → Nat → Nat
  | 0 => fun k => k
  | x + 1 => rowS tc x x (rtS tc x)
def GR (x : Nat) (R : Nat → Nat) : Prop := (∀ k, R k ≤ k) ∧ (∀ k, R (R k) = R k) ∧ ∀ k, x ≤ k → R k = k
theorem jn_gr {tc : Nat → Nat → Bool} {R : Nat → Nat} {x y : Nat} (h : GR (x + 1) R) (hy : y < x) : GR (x + 1) (jnS tc R x y) := by
  unfold jnS
  split
  · rename_i c
    obtain ⟨h1, h2, h3⟩ := h
    have hx := h1 x
    have hy' := h1 y
    have e1 := h2 x
    have e2 := h2 y
    have hne := c.1
    have key : ∀ u v, u < v → R u = u → R v = v → v ≤ x → GR (x + 1) (fun k => if R k = v then u else R k) := by
      intro u v huv hu hv hvx
      refine ⟨fun k => ?_, fun k => ?_, fun k hk => ?_⟩
      · show (if R k = v then u else R k) ≤ k
        have := h1 k
        split <;> omega
      · show (if R (if R k = v then u else R k) = v then u else R (if R k = v then u else R k)) = (if R k = v then u else R k)
        by_cases q : R k = v
        · rw [if_pos q, hu, if_neg (by omega)]
        · rw [if_neg q, h2 k, if_neg q]
      · show (if R k = v then u else R k) = k
        rw [h3 k hk, if_neg (by omega)]
    rcases Nat.lt_or_gt_of_ne hne with q | q
    · rw [Nat.max_eq_right (by omega), Nat.min_eq_left (by omega)]
      exact key _ _ q e1 e2 (by omega)
    · rw [Nat.max_eq_left (by omega), Nat.min_eq_right (by omega)]
      exact key _ _ q e2 e1 (by omega)
  · exact h
theorem row_gr {tc : Nat → Nat → Bool} {R : Nat → Nat} {x y : Nat} (h : GR (x + 1) R) (hy : y ≤ x) : GR (x + 1) (rowS tc x y R) := by
  induction y with
  | zero => exact h
  | succ y ih => exact jn_gr (ih (by omega)) (by omega)
theorem rt_gr (tc : Nat → Nat → Bool) (x : Nat) : GR x (rtS tc x) := by
  induction x with
  | zero => exact ⟨fun k => Nat.le_refl _, fun k => rfl, fun k _ => rfl⟩
  | succ x ih => exact row_gr ⟨ih.1, ih.2.1, fun k hk => ih.2.2 k (by omega)⟩ (Nat.le_refl _)
theorem mn_n {p q : Nat} (hp : p < 2 ^ 31) (hq : q < 2 ^ 31) : mn (nI p) (nI q) = nI (min p q) := by
  unfold mn
  by_cases c : q < p
  · rw [if_pos (nI_lt c hp), Nat.min_eq_right (by omega)]
  · rw [if_neg (nI_nlt (by omega) hq), Nat.min_eq_left (by omega)]
theorem mx_n {p q : Nat} (hp : p < 2 ^ 31) (hq : q < 2 ^ 31) : mx (nI p) (nI q) = nI (max p q) := by
  unfold mx
  by_cases c : p < q
  · rw [if_pos (nI_lt c hq), Nat.max_eq_right (by omega)]
  · rw [if_neg (nI_nlt (by omega) hp), Nat.max_eq_left (by omega)]
def S7 (o : Nat) (_ : Nat) : Prop := o = 7
theorem join_ok {m : Me} {x lo hi : Nat} {R : Nat → Nat} (hx : x < 24) (hh : hi < 24) (hR : ∀ k, R k ≤ k) (h : ∀ k, k ≤ x → m.1 7 k = nI (R k)) :
    ∃ m', f_Parts_join (nI lo) (nI hi) (nI x) m = some m' ∧ (∀ k, k ≤ x → m'.1 7 k = nI (if R k = hi then lo else R k)) ∧ Fm S7 m m' := by
  unfold f_Parts_join
  refine up aM (x + 1) (fun k m' => (∀ j, j < k → m'.1 7 j = nI (if R j = hi then lo else R j)) ∧ (∀ j, k ≤ j → j ≤ x → m'.1 7 j = nI (R j)) ∧ Fm S7 m m') (fun r => ∃ m', r = some m' ∧ (∀ k, k ≤ x → m'.1 7 k = nI (if R k = hi then lo else R k)) ∧ Fm S7 m m') 0 m (by omega) (by unfold FU; omega) ⟨fun j hj => by omega, fun j _ hj => h j hj, Fm.rf⟩ ?_ ?_
  · rintro f k m1 hk ⟨a1, b1, f1⟩ ih
    show ∃ m', lb_Parts_join_3 (nI lo) (nI hi) (nI x) f (nI k) m1 = some m' ∧ _
    unfold lb_Parts_join_3
    have := hR k
    rw [if_neg (nI_nlt (by omega) (by omega)), show ln 7 = 24 from rfl, rd_n (by omega) (by omega), b1 k (Nat.le_refl _) (by omega)]
    simp only [bd, nI_1]
    by_cases q : R k = hi
    · rw [if_pos (by rw [q]), wi_n (by omega) (by omega)]
      refine ih _ ⟨fun j hj => ?_, fun j q1 q2 => ?_, f1.wr' rfl⟩
      · rw [si1]
        by_cases q3 : j = k
        · subst q3; rw [if_pos ⟨rfl, rfl⟩, if_pos q]
        · rw [if_neg (by omega)]; exact a1 j (by omega)
      · rw [si1, if_neg (by omega)]; exact b1 j (by omega) q2
    · rw [if_neg (nI_ne (by omega) (by omega) q)]
      refine ih _ ⟨fun j hj => ?_, fun j q1 q2 => b1 j (by omega) q2, f1⟩
      by_cases q3 : j = k
      · subst q3; rw [if_neg q]; exact b1 j (Nat.le_refl _) (by omega)
      · exact a1 j (by omega)
  · rintro f m1 ⟨a1, b1, f1⟩
    show ∃ m', lb_Parts_join_3 (nI lo) (nI hi) (nI x) f (nI (x + 1)) m1 = some m' ∧ _
    unfold lb_Parts_join_3
    rw [if_pos (nI_lt (by omega) (by omega))]
    exact ⟨m1, rfl, fun k hk => a1 k (by omega), f1⟩
theorem joinBack_ok {m : Me} {n d : Nat} {a : Ch} {x : Nat} {R : Nat → Nat} (hV : VV n d a) (hC : CC m 10 n d a) (hL : LK m n d a) (hx : x < n) (hR : GR (x + 1) R) (h : ∀ k, k ≤ x → m.1 7 k = nI (R k)) :
    ∃ m', f_Parts_joinBack (nI x) m = some m' ∧ (∀ k, k ≤ x → m'.1 7 k = nI (rowS (tcB n d a) x x R k)) ∧ Fm S7 m m' := by
  have h24 := hV.1
  have C' : ∀ m', Fm S7 m m' → CC m' 10 n d a := fun m' f => hC.fr f (fun o j _ _ => by unfold S7; omega)
  have L' : ∀ m', Fm S7 m m' → LK m' n d a := fun m' f i hi => ⟨fun w hw => ((hL i hi).1 w hw).same (fun j => f _ _ (by unfold S7 bx; omega)), fun w => by rw [f _ _ (by unfold S7; omega)]; exact (hL i hi).2 w⟩
  unfold f_Parts_joinBack
  refine up aM x (fun y m' => (∀ k, k ≤ x → m'.1 7 k = nI (rowS (tcB n d a) x y R k)) ∧ Fm S7 m m') (fun r => ∃ m', r = some m' ∧ (∀ k, k ≤ x → m'.1 7 k = nI (rowS (tcB n d a) x x R k)) ∧ Fm S7 m m') 0 m (by omega) (by unfold FU; omega) ⟨h, Fm.rf⟩ ?_ ?_
  · rintro f y m1 hy ⟨a1, f1⟩ ih
    show ∃ m', lb_Parts_joinBack_3 (nI x) f (nI y) m1 = some m' ∧ _
    unfold lb_Parts_joinBack_3
    have G := row_gr (tc := tcB n d a) hR (show y ≤ x by omega)
    have e : rowS (tcB n d a) x (y + 1) R = jnS (tcB n d a) (rowS (tcB n d a) x y R) x y := rfl
    have ih' : ∀ m', (∀ k, k ≤ x → m'.1 7 k = nI (jnS (tcB n d a) (rowS (tcB n d a) x y R) x y k)) → Fm S7 m m' → ∃ m'', f (nI (y + 1)) m' = some m'' ∧ (∀ k, k ≤ x → m''.1 7 k = nI (rowS (tcB n d a) x x R k)) ∧ Fm S7 m m'' := fun m' h1 h2 => ih m' ⟨h1, h2⟩
    clear e
    generalize rowS (tcB n d a) x y R = R1 at *
    have gx := G.1 x
    have gy := G.1 y
    rw [if_neg (nI_ge hy (by omega)), show ln 7 = 24 from rfl, rd_n (by omega) (by omega), rd_n (by omega) (by omega), a1 x (Nat.le_refl _), a1 y (by omega)]
    simp only [bd, nI_1]
    have nx : ¬ (R1 x ≠ R1 y ∧ tcB n d a x y = true) → ∃ m'', f (nI (y + 1)) m1 = some m'' ∧ (∀ k, k ≤ x → m''.1 7 k = nI (rowS (tcB n d a) x x R k)) ∧ Fm S7 m m'' := by
      intro q
      refine ih' m1 (fun k hk => ?_) f1
      unfold jnS
      rw [if_neg q]
      exact a1 k hk
    by_cases q : R1 x = R1 y
    · rw [if_pos (by rw [q])]
      exact nx (fun w => w.1 q)
    · rw [if_neg (nI_ne (by omega) (by omega) q), near_eq hV (C' m1 f1) hx (by omega)]
      simp only [cP, bI_z]
      cases hn : neB a x y with
      | false =>
        rw [if_pos rfl]
        refine nx (fun w => ?_)
        have := tc_near hV hx (by omega) w.2
        rw [hn] at this
        cases this
      | true =>
        rw [if_neg (by decide), openClash_eq hV (L' m1 f1) hx (by omega)]
        simp only [bI_z]
        cases ht : tcB n d a x y with
        | false =>
          rw [if_pos rfl]
          exact nx (fun w => by rw [ht] at w; exact absurd w.2 (by decide))
        | true =>
          rw [if_neg (by decide)]
          simp only [rd_n (show x < 24 by omega) (show 24 < 2 ^ 31 by decide), rd_n (show y < 24 by omega) (show 24 < 2 ^ 31 by decide), a1 x (Nat.le_refl _), a1 y (by omega), mn_n (show R1 x < 2 ^ 31 by omega) (show R1 y < 2 ^ 31 by omega), mx_n (show R1 x < 2 ^ 31 by omega) (show R1 y < 2 ^ 31 by omega)]
          obtain ⟨m2, e2, a2, f2⟩ := join_ok (m := m1) (x := x) (lo := min (R1 x) (R1 y)) (hi := max (R1 x) (R1 y)) (by omega) (by omega) G.1 a1
          rw [e2]
          simp only []
          refine ih' m2 (fun k hk => ?_) (f1.tr f2)
          unfold jnS
          rw [if_pos ⟨q, ht⟩]
          exact a2 k hk
  · rintro f m1 ⟨a1, f1⟩
    show ∃ m', lb_Parts_joinBack_3 (nI x) f (nI x) m1 = some m' ∧ _
    unfold lb_Parts_joinBack_3
    rw [if_pos (nI_le (Nat.le_refl _) (by omega))]
    exact ⟨m1, rfl, a1, f1⟩
/-! numbers of parts -/
def rbS (R : Nat → Nat) (k : Nat) : Bool := decide (R k = k)
def nrS (R : Nat → Nat) (k : Nat) : Nat := cnt (rbS R) k
def pnS (R : Nat → Nat) (k : Nat) : Nat := nrS R (R k)
def IsMx (N : Nat) (f : Nat → Nat) (G : Nat) : Prop := (∀ p, p < N → f p ≤ G) ∧ (G = 0 ∨ ∃ p, p < N ∧ f p = G)
theorem IsMx.uq {N : Nat} {f : Nat → Nat} {G G' : Nat} (h : IsMx N f G) (h' : IsMx N f G') : G = G' := by
  obtain ⟨a, b⟩ := h
  obtain ⟨a', b'⟩ := h'
  have k1 : G ≤ G' := by
    rcases b with q | ⟨p, hp, e⟩
    · omega
    · have := a' p hp; omega
  have k2 : G' ≤ G := by
    rcases b' with q | ⟨p, hp, e⟩
    · omega
    · have := a p hp; omega
  omega
theorem cnt_mono {f : Nat → Bool} {i j : Nat} (h : i ≤ j) : cnt f i ≤ cnt f j := by
  induction j with
  | zero => rw [show i = 0 by omega]; exact Nat.le_refl _
  | succ j ih =>
    by_cases q : i = j + 1
    · rw [q]; exact Nat.le_refl _
    · have := ih (by omega)
      show cnt f i ≤ cnt f j + _
      omega
theorem nr_lt {R : Nat → Nat} {i k : Nat} (hr : R i = i) (h : i < k) : nrS R i < nrS R k := by
  have h1 : nrS R (i + 1) = nrS R i + 1 := by
    show cnt (rbS R) i + (if rbS R i = true then 1 else 0) = _
    rw [if_pos (by unfold rbS; simp [hr])]
    rfl
  have h2 : nrS R (i + 1) ≤ nrS R k := cnt_mono (by omega)
  omega
theorem cnt_0 {f : Nat → Bool} {n : Nat} (h : ∀ i, i < n → f i = false) : cnt f n = 0 := by
  induction n with
  | zero => rfl
  | succ n ih =>
    show cnt f n + (if f n = true then 1 else 0) = 0
    rw [ih (fun i hi => h i (by omega)), h n (by omega)]
    rfl
def pcS (R : Nat → Nat) (i p : Nat) : Nat := cnt (fun k => decide (pnS R k = p)) i
def S678 (o j : Nat) : Prop := (o = 6 ∧ (j = 2 ∨ j = 3 ∨ j = 4)) ∨ o = 7 ∨ o = 8
set_option maxHeartbeats 1000000 in
theorem give_ok {m : Me} {n : Nat} {R : Nat → Nat} (hn : n ≤ 24) (hR : GR n R) (h : ∀ k, k < n → m.1 7 k = nI (R k)) :
    ∃ m', f_Parts_giveNumbers (nI n) m = some m' ∧ (∀ k, k < n → m'.1 7 k = nI (pnS R k)) ∧ m'.1 6 2 = nI (nrS R n) ∧ (∃ G, G ≤ 24 ∧ m'.1 6 3 = nI G ∧ IsMx (nrS R n) (pcS R n) G) ∧ m'.1 6 4 = m.1 6 4 ∧ Fm S678 m m' := by
  obtain ⟨r1, r2, r3⟩ := hR
  have nle : ∀ k, nrS R k ≤ k := fun k => cnt_le _ k
  unfold f_Parts_giveNumbers
  simp only [bd]
  refine up aM n (fun i m' => (∀ k, k < i → m'.1 7 k = nI (pnS R k)) ∧ (∀ k, i ≤ k → k < n → m'.1 7 k = nI (R k)) ∧ m'.1 6 2 = nI (nrS R i) ∧ (∀ p, p < nrS R i → m'.1 8 p = nI (pcS R i p)) ∧ (∃ G, G ≤ 24 ∧ m'.1 6 3 = nI G ∧ IsMx (nrS R i) (pcS R i) G) ∧ m'.1 6 4 = m.1 6 4 ∧ Fm S678 m m') (fun r => ∃ m', r = some m' ∧ (∀ k, k < n → m'.1 7 k = nI (pnS R k)) ∧ m'.1 6 2 = nI (nrS R n) ∧ (∃ G, G ≤ 24 ∧ m'.1 6 3 = nI G ∧ IsMx (nrS R n) (pcS R n) G) ∧ m'.1 6 4 = m.1 6 4 ∧ Fm S678 m m') 0 _ (by omega) (by unfold FU; omega) ⟨fun k hk => by omega, fun k _ hk => ?_, ?_, fun p hp => by have := nle 0; omega, ⟨0, by omega, si_s, fun p hp => by have := nle 0; omega, Or.inl rfl⟩, ?_, ?_⟩ ?_ ?_
  · rw [si1, if_neg (by omega), si1, if_neg (by omega)]; exact h k hk
  · rw [si1, if_neg (by omega), si_s]; rfl
  · rw [si1, if_neg (by omega), si1, if_neg (by omega)]
  · exact (Fm.wr (by unfold S678; omega)).wr' (by unfold S678; omega)
  · rintro f i m1 hi ⟨a1, b1, c1, d1, ⟨G, g0, g1, g2, g3⟩, z1, f1⟩ ih
    show ∃ m', lb_Parts_giveNumbers_12 (nI n) f (nI i) m1 = some m' ∧ _
    unfold lb_Parts_giveNumbers_12
    have hi1 := r1 i
    have n1 := nle i
    rw [if_neg (nI_ge hi (by omega)), show ln 7 = 24 from rfl, rd_n (by omega) (by omega), b1 i (Nat.le_refl _) hi]
    simp only [bd, show ln 8 = 24 from rfl]
    -- the common tail
    have tail : ∀ (m2 : Me), m2.1 7 i = nI (pnS R i) → (∀ k, k < i → m2.1 7 k = nI (pnS R k)) → (∀ k, i + 1 ≤ k → k < n → m2.1 7 k = nI (R k)) → m2.1 6 2 = nI (nrS R (i + 1)) → (∀ p, p < nrS R (i + 1) → m2.1 8 p = nI (pcS R i p)) → m2.1 6 3 = nI G → (∀ p, p < nrS R (i + 1) → pcS R i p ≤ G) → (G = 0 ∨ ∃ p, p < nrS R (i + 1) ∧ pcS R i p = G) → m2.1 6 4 = m.1 6 4 → Fm S678 m m2 →
        ∃ m', (rd 24 (nI i) (m2.1 7) (fun v7 => rd 24 v7 (m2.1 8) (fun v8 => wi m2 8 24 v7 (v8 + (1 : Int32)) (fun m9 => rd 24 (nI i) (m9.1 7) (fun v10 => rd 24 v10 (m9.1 8) (fun v11 => f (nI i + 1) (si m9 6 3 (mx (m9.1 6 3) v11)))))))) = some m' ∧ (∀ k, k < n → m'.1 7 k = nI (pnS R k)) ∧ m'.1 6 2 = nI (nrS R n) ∧ (∃ G, G ≤ 24 ∧ m'.1 6 3 = nI G ∧ IsMx (nrS R n) (pcS R n) G) ∧ m'.1 6 4 = m.1 6 4 ∧ Fm S678 m m' := by
      intro m2 t1 t2 t3 t4 t5 t6 t7 t8 t9 t10
      have pl : pnS R i < nrS R (i + 1) := nr_lt (r2 i) (by omega)
      have n2 := nle (i + 1)
      have pc1 : pcS R (i + 1) (pnS R i) = pcS R i (pnS R i) + 1 := by
        show cnt _ i + (if decide (pnS R i = pnS R i) = true then 1 else 0) = _
        simp [pcS]
      have pc2 : ∀ p, p ≠ pnS R i → pcS R (i + 1) p = pcS R i p := by
        intro p hp
        show cnt _ i + (if decide (pnS R i = p) = true then 1 else 0) = _
        rw [if_neg (by simp; exact fun q => hp q.symm)]
        rfl
      have pcl : pcS R i (pnS R i) ≤ i := cnt_le _ _
      generalize hq : pnS R i = q at *
      rw [rd_n (by omega) (by omega), t1, rd_n (by omega) (by omega), t5 q pl, wi_n (by omega) (by omega), rd_n (by omega) (by omega)]
      rw [show (si m2 8 q (nI (pcS R i q) + 1)).1 7 i = nI q by rw [si1, if_neg (by omega)]; exact t1, rd_n (by omega) (by omega), si_s, nI_1, nI_1]
      rw [show (si m2 8 q (nI (pcS R i q + 1))).1 6 3 = nI G by rw [si1, if_neg (by omega)]; exact t6, mx_n (by omega) (by omega)]
      refine ih _ ⟨?_, ?_, ?_, ?_, ⟨max G (pcS R i q + 1), by omega, si_s, ?_, ?_⟩, ?_, (t10.wr' (by unfold S678; omega)).wr' (by unfold S678; omega)⟩
      · intro k hk
        rw [si1, if_neg (by omega), si1, if_neg (by omega)]
        by_cases w : k = i
        · rw [w, t1, hq]
        · exact t2 k (by omega)
      · intro k k1 k2
        rw [si1, if_neg (by omega), si1, if_neg (by omega)]; exact t3 k k1 k2
      · rw [si1, if_neg (by omega), si1, if_neg (by omega)]; exact t4
      · intro p hp
        rw [si1, if_neg (by omega), si1]
        by_cases w : p = q
        · subst w; rw [if_pos ⟨rfl, rfl⟩, pc1]
        · rw [if_neg (by omega), pc2 p w]; exact t5 p hp
      · intro p hp
        by_cases w : p = q
        · subst w; rw [pc1]; omega
        · rw [pc2 p w]; have := t7 p hp; omega
      · right
        by_cases w : G ≤ pcS R i q + 1
        · exact ⟨q, pl, by rw [pc1]; omega⟩
        · rcases t8 with u | ⟨p, p1, p2⟩
          · omega
          · refine ⟨p, p1, ?_⟩
            rw [pc2 p (by intro e; subst e; omega)]
            omega
      · rw [si1, if_neg (by omega), si1, if_neg (by omega)]; exact t9
    by_cases q : R i = i
    · have e1 : nrS R (i + 1) = nrS R i + 1 := by
        show cnt (rbS R) i + (if rbS R i = true then 1 else 0) = _
        rw [if_pos (by unfold rbS; simp [q])]
        rfl
      have e2 : pnS R i = nrS R i := by unfold pnS; rw [q]
      have e3 : pcS R i (nrS R i) = 0 := by
        refine cnt_0 (fun k hk => ?_)
        have : pnS R k < nrS R i := nr_lt (r2 k) (by have := r1 k; omega)
        simp; omega
      rw [if_pos (by rw [q]), c1, wi_n (by omega) (by omega)]
      rw [show (si m1 8 (nrS R i) 0).1 6 2 = nI (nrS R i) by rw [si1, if_neg (by omega)]; exact c1, wi_n (by omega) (by omega)]
      rw [show (si (si m1 8 (nrS R i) 0) 7 i (nI (nrS R i))).1 6 2 = nI (nrS R i) by rw [si1, if_neg (by omega), si1, if_neg (by omega)]; exact c1, show nI (nrS R i) + (1 : Int32) = nI (nrS R i + 1) from nI_1 _]
      refine tail _ ?_ ?_ ?_ ?_ ?_ ?_ ?_ ?_ ?_ ?_
      · rw [si1, if_neg (by omega), si_s, e2]
      · intro k hk
        rw [si1, if_neg (by omega), si1, if_neg (by omega), si1, if_neg (by omega)]; exact a1 k hk
      · intro k k1 k2
        rw [si1, if_neg (by omega), si1, if_neg (by omega), si1, if_neg (by omega)]; exact b1 k (by omega) k2
      · rw [si_s, e1]
      · intro p hp
        rw [si1, if_neg (by omega), si1, if_neg (by omega), si1]
        by_cases w : p = nrS R i
        · subst w; rw [if_pos ⟨rfl, rfl⟩, e3]; rfl
        · rw [if_neg (by omega)]; exact d1 p (by omega)
      · rw [si1, if_neg (by omega), si1, if_neg (by omega), si1, if_neg (by omega)]; exact g1
      · intro p hp
        by_cases w : p = nrS R i
        · subst w; rw [e3]; omega
        · exact g2 p (by omega)
      · rcases g3 with w | ⟨p, p1, p2⟩
        · exact Or.inl w
        · exact Or.inr ⟨p, by omega, p2⟩
      · rw [si1, if_neg (by omega), si1, if_neg (by omega), si1, if_neg (by omega)]; exact z1
      · exact ((f1.wr' (by unfold S678; omega)).wr' (by unfold S678; omega)).wr' (by unfold S678; omega)
    · have e1 : nrS R (i + 1) = nrS R i := by
        show cnt (rbS R) i + (if rbS R i = true then 1 else 0) = _
        rw [if_neg (by unfold rbS; simp [q])]
        rfl
      rw [if_neg (nI_ne (by omega) (by omega) q), rd_n (by omega) (by omega), b1 i (Nat.le_refl _) hi, rd_n (by omega) (by omega), a1 (R i) (by omega), wi_n (by omega) (by omega)]
      have e2 : pnS R (R i) = pnS R i := by unfold pnS; rw [r2]
      rw [e2]
      refine tail _ si_s ?_ ?_ ?_ ?_ ?_ ?_ ?_ ?_ ?_
      · intro k hk
        rw [si1, if_neg (by omega)]; exact a1 k hk
      · intro k k1 k2
        rw [si1, if_neg (by omega)]; exact b1 k (by omega) k2
      · rw [si1, if_neg (by omega), e1]; exact c1
      · intro p hp
        rw [si1, if_neg (by omega)]; exact d1 p (by omega)
      · rw [si1, if_neg (by omega)]; exact g1
      · rw [e1]; exact g2
      · rw [e1]; exact g3
      · rw [si1, if_neg (by omega)]; exact z1
      · exact f1.wr' (by unfold S678; omega)
  · rintro f m1 ⟨a1, b1, c1, d1, g, z1, f1⟩
    show ∃ m', lb_Parts_giveNumbers_12 (nI n) f (nI n) m1 = some m' ∧ _
    unfold lb_Parts_giveNumbers_12
    rw [if_pos (nI_le (Nat.le_refl _) (by omega))]
    exact ⟨m1, rfl, a1, c1, g, z1, f1⟩
def PK (m : Me) (n d : Nat) (a : Ch) : Prop := (∀ k, k < n → m.1 7 k = nI (pnS (rtS (tcB n d a) n) k)) ∧ m.1 6 2 = nI (nrS (rtS (tcB n d a) n) n) ∧ ∃ G, G ≤ 24 ∧ m.1 6 3 = nI G ∧ IsMx (nrS (rtS (tcB n d a) n) n) (pcS (rtS (tcB n d a) n) n) G
set_option maxHeartbeats 1000000 in
theorem split_ok {m : Me} {n d : Nat} {a : Ch} (hV : VV n d a) (hC : CC m 10 n d a) (hL : LK m n d a) (h0 : m.1 6 4 = 0) :
    ∃ m', f_Parts_refresh m = some m' ∧ PK m' n d a ∧ m'.1 6 4 = 1 ∧ Fm S678 m m' := by
  have h24 := hV.1
  have C' : ∀ m', Fm S678 m m' → CC m' 10 n d a := fun m' f => hC.fr f (fun o j _ _ => by unfold S678; omega)
  have L' : ∀ m', Fm S678 m m' → LK m' n d a := fun m' f i hi => ⟨fun w hw => ((hL i hi).1 w hw).same (fun j => f _ _ (by unfold S678 bx; omega)), fun w => by rw [f _ _ (by unfold S678; omega)]; exact (hL i hi).2 w⟩
  unfold f_Parts_refresh
  rw [if_pos h0]
  unfold pz
  rw [if_pos (Or.inr rfl)]
  simp only [bd]
  refine up aM n (fun x m' => (∀ k, k < x → m'.1 7 k = nI (rtS (tcB n d a) x k)) ∧ m'.1 6 4 = 1 ∧ Fm S678 m m') (fun r => ∃ m', r = some m' ∧ PK m' n d a ∧ m'.1 6 4 = 1 ∧ Fm S678 m m') 0 _ (by omega) (by unfold FU; omega) ⟨fun k hk => by omega, si_s, Fm.wr (by unfold S678; omega)⟩ ?_ ?_
  · rintro f x m1 hx ⟨a1, z1, f1⟩ ih
    show ∃ m', lb_Parts_refresh_15 _ f (nI x) m1 = some m' ∧ _
    unfold lb_Parts_refresh_15
    have G := rt_gr (tcB n d a) x
    have f2 : Fm S678 m (si m1 7 x (nI x)) := f1.wr' (by unfold S678; omega)
    rw [(C' m1 f1).1, if_neg (nI_ge hx (by omega)), show ln 7 = 24 from rfl, wi_n (by omega) (by omega)]
    obtain ⟨m3, e3, a3, f3⟩ := joinBack_ok (m := si m1 7 x (nI x)) (R := rtS (tcB n d a) x) hV (C' _ f2) (L' _ f2) hx ⟨G.1, G.2.1, fun k hk => G.2.2 k (by omega)⟩ (by
      intro k hk
      rw [si1]
      by_cases q : k = x
      · subst q; rw [if_pos ⟨rfl, rfl⟩, G.2.2 k (Nat.le_refl _)]
      · rw [if_neg (by omega)]; exact a1 k (by omega))
    rw [e3]
    simp only [cP, bd, nI_1]
    refine ih _ ⟨fun k hk => a3 k (by omega), ?_, f2.tr (f3.mo (fun o j q => by unfold S7 at q; unfold S678; omega))⟩
    rw [f3 _ _ (by unfold S7; omega), si1, if_neg (by omega)]
    exact z1
  · rintro f m1 ⟨a1, z1, f1⟩
    show ∃ m', lb_Parts_refresh_15 _ f (nI n) m1 = some m' ∧ _
    unfold lb_Parts_refresh_15
    rw [(C' m1 f1).1, if_pos (nI_le (Nat.le_refl _) (by omega))]
    obtain ⟨m2, e2, a2, b2, g2, z2, f2⟩ := give_ok (m := m1) h24 (rt_gr (tcB n d a) n) a1
    simp only []
    rw [(C' m1 f1).1, e2]
    simp only [cP]
    exact ⟨m2, rfl, ⟨a2, b2, g2⟩, z2.trans z1, f1.tr f2⟩
