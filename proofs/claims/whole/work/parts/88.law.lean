/-! PURE PART: the law's loop, over best -/
theorem cI_pair {A : Option (Int32 × Me)} {B : Me → Option (Int32 × Me)} {k : Me → Option Int32} (h : PairI A B) (hk : ∀ m', Inv m' → k m' = some 1) : cI A (fun v m1 => cI (B m1) (fun v' m2 => if v = v' then k m2 else some (0 : Int32))) = some 1 := by
  obtain ⟨r, m1, m2, e1, e2, i⟩ := h
  rw [e1, cI_s, e2, cI_s, if_pos rfl]
  exact hk m2 i
theorem cP_pair {A : Option Int32} {B : Me → Option (Int32 × Me)} {m : Me} {k : Me → Option Int32} (h : PairP A B m) (hk : ∀ m', Inv m' → k m' = some 1) : cP A (fun v => cI (B m) (fun v' m2 => if v = v' then k m2 else some (0 : Int32))) = some 1 := by
  obtain ⟨r, m2, e1, e2, i⟩ := h
  rw [e1, cP_s, e2, cI_s, if_pos rfl]
  exact hk m2 i
theorem inv_Z : Inv mZ := by
  refine ⟨0, 0, fun _ _ => 0, 0, 0, fun _ => (0, 0, fun _ _ => 0), ⟨by omega, by omega, fun i hi => by omega, fun i hi => by omega⟩, ⟨rfl, rfl, fun k i _ _ hi => by omega, fun i hi => by omega, fun i hi => by omega⟩, ⟨rfl, rfl, fun k i _ _ hi => by omega, fun i hi => by omega⟩, ⟨by omega, by omega, fun s hs l => ?_⟩, ⟨rfl, rfl, fun s hs l => ?_⟩, ⟨rfl, rfl, fun s hs l => ?_⟩, Or.inl rfl, Or.inl rfl, Or.inl rfl⟩
  · unfold live at l; omega
  · unfold live at l; omega
  · unfold live at l; omega
set_option maxHeartbeats 4000000 in
theorem law_step {L t : Nat} {xs : Nat → Int32} {f : Int32 → Me → Option Int32} {m : Me} (hB : ∀ m, Inv m → PairI (f_NC_best m) f_Mo_best) (hL : L ≤ 3072) (ht : 6 * t + 5 < L) (hI' : Inv m) (ih : ∀ m', Inv m' → f (nI (6 * (t + 1))) m' = some 1) : lb_Law_law_18 L xs f (nI (6 * t)) m = some 1 := by
  unfold lb_Law_law_18
  have h6 : ¬ (Int32.ofNat L - (6 : Int32) < nI (6 * t)) := by
    rw [show Int32.ofNat L - (6 : Int32) = nI (L - 6) from pk_sub (a := L) (b := 6) (by omega)]
    exact nI_nlt (by omega) (by omega)
  have r0 : ∀ (K : Int32 → Option Int32), rd L (nI (6 * t)) xs K = K (xs (6 * t)) := fun K => rd_n (by omega) (by omega)
  have r1 : ∀ (K : Int32 → Option Int32), rd L (nI (6 * t) + (1 : Int32)) xs K = K (xs (6 * t + 1)) := fun K => by
    rw [show nI (6 * t) + (1 : Int32) = nI (6 * t + 1) from nI_add _ 1]
    exact rd_n (by omega) (by omega)
  have r2 : ∀ (K : Int32 → Option Int32), rd L (nI (6 * t) + (2 : Int32)) xs K = K (xs (6 * t + 2)) := fun K => by
    rw [show nI (6 * t) + (2 : Int32) = nI (6 * t + 2) from nI_add _ 2]
    exact rd_n (by omega) (by omega)
  have r3 : ∀ (K : Int32 → Option Int32), rd L (nI (6 * t) + (3 : Int32)) xs K = K (xs (6 * t + 3)) := fun K => by
    rw [show nI (6 * t) + (3 : Int32) = nI (6 * t + 3) from nI_add _ 3]
    exact rd_n (by omega) (by omega)
  have r4 : ∀ (K : Int32 → Option Int32), rd L (nI (6 * t) + (4 : Int32)) xs K = K (xs (6 * t + 4)) := fun K => by
    rw [show nI (6 * t) + (4 : Int32) = nI (6 * t + 4) from nI_add _ 4]
    exact rd_n (by omega) (by omega)
  have r5 : ∀ (K : Int32 → Option Int32), rd L (nI (6 * t) + (5 : Int32)) xs K = K (xs (6 * t + 5)) := fun K => by
    rw [show nI (6 * t) + (5 : Int32) = nI (6 * t + 5) from nI_add _ 5]
    exact rd_n (by omega) (by omega)
  rw [if_neg h6, r0, bdE, bdE]
  simp only [r1, r2, r3, r4, r5]
  have hk : ∀ m', Inv m' → (bd (nI (6 * t) + Int32.ofInt 6) (fun v6 => f v6 m')) = some 1 := by
    intro m' i'
    rw [bdE, show nI (6 * t) + Int32.ofInt 6 = nI (6 * (t + 1)) from nI_add (6 * t) 6]
    exact ih m' i'
  by_cases q0 : xs (6 * t) &&& (31 : Int32) = (0 : Int32)
  · rw [if_pos q0]
    exact cI_pair (c_name hI' _ _ _) hk
  rw [if_neg q0]
  by_cases q1 : xs (6 * t) &&& (31 : Int32) = (1 : Int32)
  · rw [if_pos q1]
    exact cI_pair (c_dot hI' _ _) hk
  rw [if_neg q1]
  by_cases q2 : xs (6 * t) &&& (31 : Int32) = (2 : Int32)
  · rw [if_pos q2]
    exact cI_pair (c_move hI' _ _ _) hk
  rw [if_neg q2]
  by_cases q3 : xs (6 * t) &&& (31 : Int32) = (3 : Int32)
  · rw [if_pos q3]
    exact cI_pair (c_weigh hI' _ _) hk
  rw [if_neg q3]
  by_cases q4 : xs (6 * t) &&& (31 : Int32) = (4 : Int32)
  · rw [if_pos q4]
    exact cI_pair (c_size hI' _ _ _) hk
  rw [if_neg q4]
  by_cases q5 : xs (6 * t) &&& (31 : Int32) = (5 : Int32)
  · rw [if_pos q5]
    exact cI_pair (c_about hI' _ _) hk
  rw [if_neg q5]
  by_cases q6 : xs (6 * t) &&& (31 : Int32) = (6 : Int32)
  · rw [if_pos q6]
    exact cP_pair (c_isOf hI' _ _) hk
  rw [if_neg q6]
  by_cases q7 : xs (6 * t) &&& (31 : Int32) = (7 : Int32)
  · rw [if_pos q7]
    exact cI_pair (c_way hI' _ _ _ _) hk
  rw [if_neg q7]
  by_cases q8 : xs (6 * t) &&& (31 : Int32) = (8 : Int32)
  · rw [if_pos q8]
    exact cI_pair (c_clash hI' _ _ _ _ _) hk
  rw [if_neg q8]
  by_cases q9 : xs (6 * t) &&& (31 : Int32) = (9 : Int32)
  · rw [if_pos q9]
    exact cI_pair (c_clashes hI' _ _) hk
  rw [if_neg q9]
  by_cases q10 : xs (6 * t) &&& (31 : Int32) = (10 : Int32)
  · rw [if_pos q10]
    exact cI_pair (c_parts hI') hk
  rw [if_neg q10]
  by_cases q11 : xs (6 * t) &&& (31 : Int32) = (11 : Int32)
  · rw [if_pos q11]
    exact cI_pair (c_set hI' _ _) hk
  rw [if_neg q11]
  by_cases q12 : xs (6 * t) &&& (31 : Int32) = (12 : Int32)
  · rw [if_pos q12]
    exact cI_pair (c_free hI' _) hk
  rw [if_neg q12]
  by_cases q13 : xs (6 * t) &&& (31 : Int32) = (13 : Int32)
  · rw [if_pos q13]
    exact cP_pair (c_chosen hI' _) hk
  rw [if_neg q13]
  by_cases q14 : xs (6 * t) &&& (31 : Int32) = (14 : Int32)
  · rw [if_pos q14]
    exact cI_pair (c_check hI') hk
  rw [if_neg q14]
  by_cases q15 : xs (6 * t) &&& (31 : Int32) = (15 : Int32)
  · rw [if_pos q15]
    exact cP_pair (c_worth hI') hk
  rw [if_neg q15]
  by_cases q16 : xs (6 * t) &&& (31 : Int32) = (16 : Int32)
  · rw [if_pos q16]
    exact cI_pair (hB m hI') hk
  rw [if_neg q16]
  by_cases q17 : xs (6 * t) &&& (31 : Int32) = (17 : Int32)
  · rw [if_pos q17]
    exact cI_pair (c_quick hI') hk
  rw [if_neg q17]
  by_cases q18 : xs (6 * t) &&& (31 : Int32) = (18 : Int32)
  · rw [if_pos q18]
    exact cI_pair (c_why hI' _ _) hk
  rw [if_neg q18]
  by_cases q19 : xs (6 * t) &&& (31 : Int32) = (19 : Int32)
  · rw [if_pos q19]
    exact cI_pair (c_slack hI') hk
  rw [if_neg q19]
  by_cases q20 : xs (6 * t) &&& (31 : Int32) = (20 : Int32)
  · rw [if_pos q20]
    exact cI_pair (c_steady hI' _ _) hk
  rw [if_neg q20]
  by_cases q21 : xs (6 * t) &&& (31 : Int32) = (21 : Int32)
  · rw [if_pos q21]
    exact cI_pair (c_there hI' _) hk
  rw [if_neg q21]
  by_cases q22 : xs (6 * t) &&& (31 : Int32) = (22 : Int32)
  · rw [if_pos q22]
    exact cI_pair (c_at hI' _ _) hk
  rw [if_neg q22]
  by_cases q23 : xs (6 * t) &&& (31 : Int32) = (23 : Int32)
  · rw [if_pos q23]
    exact cI_pair (c_find hI' _ _ _ _ _) hk
  rw [if_neg q23]
  by_cases q24 : xs (6 * t) &&& (31 : Int32) = (24 : Int32)
  · rw [if_pos q24]
    exact cI_pair (c_undo hI') hk
  rw [if_neg q24]
  by_cases q25 : xs (6 * t) &&& (31 : Int32) = (25 : Int32)
  · rw [if_pos q25]
    exact cI_pair (c_count hI' _) hk
  rw [if_neg q25]
  exact hk m hI'
theorem law_of_best (hB : ∀ m, Inv m → PairI (f_NC_best m) f_Mo_best) : ∀ (L : Nat) (xs : Nat → Int32), L ≤ 3072 → lawF L xs mZ = some 1 := by
  intro L xs hL
  unfold lawF
  refine up (fun (f : Int32 → Me → Option Int32) t (s : Me) => f (nI (6 * t)) s) (L / 6) (fun _ m => Inv m) (fun r => r = some 1) 0 mZ (by omega) (by unfold FU; omega) inv_Z ?_ ?_
  · intro f t m ht i ih
    exact law_step hB hL (by omega) i ih
  · intro f m i
    show lb_Law_law_18 L xs f (nI (6 * (L / 6))) m = some 1
    unfold lb_Law_law_18
    rw [if_pos]
    rw [show Int32.ofNat L = nI L from rfl, nI_i, nI_i, show iI (L : Int) - (6 : Int32) = iI ((L : Int) - 6) from iI_sub _ 6, b_lt (by omega) (by omega) (by omega) (by omega)]
    omega
