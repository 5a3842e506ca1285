/-! PURE PART, BEST: the lowest bit; completions -/
def tzN : Nat → Nat → Nat
  | 0, _ => 0
  | f + 1, k => if Nat.beq (Nat.mod k 2) 1 = true then 0 else Nat.succ (tzN f (Nat.div k 2))
def tz (k : Nat) : Nat := tzN 16 k
def ct1 (k : Nat) : Bool := Nat.beq (Nat.land (Nat.xor k 4294967295) (Nat.sub k 1)) (Nat.sub (Nat.pow 2 (tz k)) 1) && (Nat.beq (Nat.mod (Nat.div k (Nat.pow 2 (tz k))) 2) 1 && (Nat.beq (Nat.mod k (Nat.pow 2 (tz k))) 0 && Nat.ble (tz k) 15))
def ctN : Nat → Nat → Bool
  | 0, _ => true
  | c + 1, k => ct1 k && ctN c (Nat.succ k)
theorem ct_ok {c k j : Nat} (h : ctN c k = true) (h1 : k ≤ j) (h2 : j < k + c) : ct1 j = true := by
  induction c generalizing k with
  | zero => omega
  | succ c ih =>
    have h : (ct1 k && ctN c (k + 1)) = true := h
    rw [Bool.and_eq_true] at h
    by_cases q : j = k
    · subst q; exact h.1
    · exact ih h.2 (by omega) (by omega)
theorem ct_0 : ctN 2047 1 = true := by decide +kernel
theorem ct_1 : ctN 2048 2048 = true := by decide +kernel
theorem ct_2 : ctN 2048 4096 = true := by decide +kernel
theorem ct_3 : ctN 2048 6144 = true := by decide +kernel
theorem ct_4 : ctN 2048 8192 = true := by decide +kernel
theorem ct_5 : ctN 2048 10240 = true := by decide +kernel
theorem ct_6 : ctN 2048 12288 = true := by decide +kernel
theorem ct_7 : ctN 2048 14336 = true := by decide +kernel
theorem ct_8 : ctN 2048 16384 = true := by decide +kernel
theorem ct_9 : ctN 2048 18432 = true := by decide +kernel
theorem ct_10 : ctN 2048 20480 = true := by decide +kernel
theorem ct_11 : ctN 2048 22528 = true := by decide +kernel
theorem ct_12 : ctN 2048 24576 = true := by decide +kernel
theorem ct_13 : ctN 2048 26624 = true := by decide +kernel
theorem ct_14 : ctN 2048 28672 = true := by decide +kernel
theorem ct_15 : ctN 2048 30720 = true := by decide +kernel
theorem ct_16 : ctN 2048 32768 = true := by decide +kernel
theorem ct_17 : ctN 2048 34816 = true := by decide +kernel
theorem ct_18 : ctN 2048 36864 = true := by decide +kernel
theorem ct_19 : ctN 2048 38912 = true := by decide +kernel
theorem ct_20 : ctN 2048 40960 = true := by decide +kernel
theorem ct_21 : ctN 2048 43008 = true := by decide +kernel
theorem ct_22 : ctN 2048 45056 = true := by decide +kernel
theorem ct_23 : ctN 2048 47104 = true := by decide +kernel
theorem ct_24 : ctN 2048 49152 = true := by decide +kernel
theorem ct_25 : ctN 2048 51200 = true := by decide +kernel
theorem ct_26 : ctN 2048 53248 = true := by decide +kernel
theorem ct_27 : ctN 2048 55296 = true := by decide +kernel
theorem ct_28 : ctN 2048 57344 = true := by decide +kernel
theorem ct_29 : ctN 2048 59392 = true := by decide +kernel
theorem ct_30 : ctN 2048 61440 = true := by decide +kernel
theorem ct_31 : ctN 2048 63488 = true := by decide +kernel
theorem ct_all {k : Nat} (h0 : 0 < k) (h : k < 65536) : ct1 k = true := by
  by_cases h1 : k < 2048
  · exact ct_ok ct_0 (by omega) (by omega)
  by_cases h2 : k < 4096
  · exact ct_ok ct_1 (by omega) (by omega)
  by_cases h3 : k < 6144
  · exact ct_ok ct_2 (by omega) (by omega)
  by_cases h4 : k < 8192
  · exact ct_ok ct_3 (by omega) (by omega)
  by_cases h5 : k < 10240
  · exact ct_ok ct_4 (by omega) (by omega)
  by_cases h6 : k < 12288
  · exact ct_ok ct_5 (by omega) (by omega)
  by_cases h7 : k < 14336
  · exact ct_ok ct_6 (by omega) (by omega)
  by_cases h8 : k < 16384
  · exact ct_ok ct_7 (by omega) (by omega)
  by_cases h9 : k < 18432
  · exact ct_ok ct_8 (by omega) (by omega)
  by_cases h10 : k < 20480
  · exact ct_ok ct_9 (by omega) (by omega)
  by_cases h11 : k < 22528
  · exact ct_ok ct_10 (by omega) (by omega)
  by_cases h12 : k < 24576
  · exact ct_ok ct_11 (by omega) (by omega)
  by_cases h13 : k < 26624
  · exact ct_ok ct_12 (by omega) (by omega)
  by_cases h14 : k < 28672
  · exact ct_ok ct_13 (by omega) (by omega)
  by_cases h15 : k < 30720
  · exact ct_ok ct_14 (by omega) (by omega)
  by_cases h16 : k < 32768
  · exact ct_ok ct_15 (by omega) (by omega)
  by_cases h17 : k < 34816
  · exact ct_ok ct_16 (by omega) (by omega)
  by_cases h18 : k < 36864
  · exact ct_ok ct_17 (by omega) (by omega)
  by_cases h19 : k < 38912
  · exact ct_ok ct_18 (by omega) (by omega)
  by_cases h20 : k < 40960
  · exact ct_ok ct_19 (by omega) (by omega)
  by_cases h21 : k < 43008
  · exact ct_ok ct_20 (by omega) (by omega)
  by_cases h22 : k < 45056
  · exact ct_ok ct_21 (by omega) (by omega)
  by_cases h23 : k < 47104
  · exact ct_ok ct_22 (by omega) (by omega)
  by_cases h24 : k < 49152
  · exact ct_ok ct_23 (by omega) (by omega)
  by_cases h25 : k < 51200
  · exact ct_ok ct_24 (by omega) (by omega)
  by_cases h26 : k < 53248
  · exact ct_ok ct_25 (by omega) (by omega)
  by_cases h27 : k < 55296
  · exact ct_ok ct_26 (by omega) (by omega)
  by_cases h28 : k < 57344
  · exact ct_ok ct_27 (by omega) (by omega)
  by_cases h29 : k < 59392
  · exact ct_ok ct_28 (by omega) (by omega)
  by_cases h30 : k < 61440
  · exact ct_ok ct_29 (by omega) (by omega)
  by_cases h31 : k < 63488
  · exact ct_ok ct_30 (by omega) (by omega)
  exact ct_ok ct_31 (by omega) (by omega)
theorem nI_xor {k : Nat} (h : k < 2 ^ 32) : nI k ^^^ (-1 : Int32) = nI (k ^^^ 4294967295) := by
  have h2 : k ^^^ 4294967295 < 2 ^ 32 := Nat.xor_lt_two_pow h (by decide)
  apply bb_ext
  intro s hs
  rw [bb_nI h2, Nat.testBit_xor, show (4294967295 : Nat) = 2 ^ 32 - 1 from rfl, Nat.testBit_two_pow_sub_one]
  unfold bb
  rw [Int32.toBitVec_xor, BitVec.getLsbD_xor, show (-1 : Int32).toBitVec = BitVec.allOnes 32 from by decide, BitVec.getLsbD_allOnes]
  have := bb_nI h s
  unfold bb at this
  rw [this]
theorem ntz16 : ∀ t, t < 16 → (fun (v1 : Int32) => if 0 < v1 then bd (fun (v2 : Int32) (v3 : Int32) => bd (fun (v4 : Int32) (v5 : Int32) => bd (fun (v6 : Int32) (v7 : Int32) => if v6 ≤ (4 : Int32) then some (v7 + ((ush v6 (1 : Int32)))) else bd (v7 + Int32.ofInt (2)) (fun v8 => bd ((ush v6 (2 : Int32))) (fun v9 => some (v8 + ((ush v9 (1 : Int32))))))) (fun k62_ => if v4 ≤ (16 : Int32) then (k62_ v4 v5) else bd (v5 + Int32.ofInt (4)) (fun v10 => bd ((ush v4 (4 : Int32))) (fun v11 => (k62_ v11 v10))))) (fun k49_ => if v2 ≤ (256 : Int32) then (k49_ v2 v3) else bd (v3 + Int32.ofInt (8)) (fun v12 => bd ((ush v2 (8 : Int32))) (fun v13 => (k49_ v13 v12))))) (fun k34_ => if v1 ≤ (65536 : Int32) then (k34_ v1 (1 : Int32)) else bd ((1 : Int32) + Int32.ofInt (16)) (fun v14 => bd ((ush v1 (16 : Int32))) (fun v15 => (k34_ v15 v14)))) else some (v1 &&& (32 : Int32))) (nI (2 ^ t - 1)) = some (nI t) := by decide +kernel
theorem ntz_eq {x : Int32} {m : Me} (h : ∀ k, 16 ≤ k → bb x k = false) (h0 : x ≠ 0) : ∃ t, t < 16 ∧ f_Integer_numberOfTrailingZeros x m = some (nI t) ∧ bb x t = true ∧ ∀ s, s < t → bb x s = false := by
  obtain ⟨k, hk, rfl⟩ := bits16 h
  have k0 : 0 < k := by
    rcases Nat.eq_zero_or_pos k with q | q
    · subst q; exact absurd rfl h0
    · exact q
  have c := ct_all k0 hk
  unfold ct1 at c
  rw [Bool.and_eq_true, Bool.and_eq_true, Bool.and_eq_true] at c
  obtain ⟨c1, c2, c3, c4⟩ := c
  have c1 : (k ^^^ 4294967295) &&& (k - 1) = 2 ^ tz k - 1 := Nat.eq_of_beq_eq_true c1
  have c2 : k / 2 ^ tz k % 2 = 1 := Nat.eq_of_beq_eq_true c2
  have c3 : k % 2 ^ tz k = 0 := Nat.eq_of_beq_eq_true c3
  have c4 : tz k ≤ 15 := Nat.le_of_ble_eq_true c4
  refine ⟨tz k, by omega, ?_, ?_, ?_⟩
  · unfold f_Integer_numberOfTrailingZeros
    rw [nI_xor (by omega), show nI k - (1 : Int32) = nI (k - 1) from pk_sub (a := k) (b := 1) (by omega), nI_and (Nat.xor_lt_two_pow (by omega) (by decide)) (by omega), c1]
    exact ntz16 (tz k) (by omega)
  · rw [bb_nI (by omega), Nat.testBit_eq_decide_div_mod_eq, c2]
    rfl
  · intro s hs
    rw [bb_nI (by omega), Nat.testBit_eq_decide_div_mod_eq]
    have : k / 2 ^ s % 2 = 0 := by
      have e : 2 ^ tz k = 2 ^ s * (2 * 2 ^ (tz k - s - 1)) := by
        rw [← Nat.pow_succ', ← Nat.pow_add]
        congr 1
        omega
      have d : k = 2 ^ tz k * (k / 2 ^ tz k) := by
        have := Nat.div_add_mod k (2 ^ tz k)
        omega
      rw [d, e, Nat.mul_assoc, Nat.mul_div_cancel_left _ (Nat.pow_pos (by decide)), Nat.mul_assoc, Nat.mul_mod_right]
    simp [this]
/-! completions -/
def usA (must : Nat → Bool) (A : Nat → Nat → Bool) (i r : Nat) : Bool := if r < 16 then A i r else (decide (r = 16) && !must i)
def CPr (must : Nat → Bool) (ban : Nat → Nat → Nat → Nat → Bool) : Nat → Nat → (Nat → Nat → Bool) → (Nat → Nat) → Prop
  | 0, _, _, _ => True
  | q + 1, i, A, c => usA must A i (c i) = true ∧ CPr must ban q (i + 1) (fun j s => A j s && !(ban i (c i) j s)) c
def vlr (gain : Nat → Nat → Nat) : Nat → Nat → (Nat → Nat) → Nat
  | 0, _, _ => 0
  | q + 1, i, c => gain i (c i) + vlr gain q (i + 1) c
theorem us_le {must : Nat → Bool} {A : Nat → Nat → Bool} {i r : Nat} (h : usA must A i r = true) : r ≤ 16 := by
  unfold usA at h
  split at h
  · omega
  · rw [Bool.and_eq_true] at h
    have := of_decide_eq_true h.1
    omega
theorem us_mo {must : Nat → Bool} {A A' : Nat → Nat → Bool} {i r : Nat} (g : ∀ s, s < 16 → A i s = true → A' i s = true) (h : usA must A i r = true) : usA must A' i r = true := by
  unfold usA at *
  split
  · rename_i c
    rw [if_pos c] at h
    exact g r c h
  · rename_i c
    rw [if_neg c] at h
    exact h
theorem CP_mo {must : Nat → Bool} {ban : Nat → Nat → Nat → Nat → Bool} {q i : Nat} {A A' : Nat → Nat → Bool} {c : Nat → Nat} (g : ∀ j s, i ≤ j → j < i + q → s < 16 → A j s = true → A' j s = true) (h : CPr must ban q i A c) : CPr must ban q i A' c := by
  induction q generalizing i A A' with
  | zero => trivial
  | succ q ih =>
    obtain ⟨h1, h2⟩ := h
    refine ⟨us_mo (fun s hs => g i s (Nat.le_refl _) (by omega) hs) h1, ih (fun j s hj hj2 hs w => ?_) h2⟩
    rw [Bool.and_eq_true] at w ⊢
    exact ⟨g j s (by omega) (by omega) hs w.1, w.2⟩
theorem CP_cg {must : Nat → Bool} {ban : Nat → Nat → Nat → Nat → Bool} {q i : Nat} {A : Nat → Nat → Bool} {c c' : Nat → Nat} (g : ∀ j, i ≤ j → c j = c' j) (h : CPr must ban q i A c) : CPr must ban q i A c' := by
  induction q generalizing i A with
  | zero => trivial
  | succ q ih =>
    obtain ⟨h1, h2⟩ := h
    unfold CPr
    rw [← g i (Nat.le_refl _)]
    exact ⟨h1, ih (fun j hj => g j (by omega)) h2⟩
theorem vl_cg {gain : Nat → Nat → Nat} {q i : Nat} {c c' : Nat → Nat} (g : ∀ j, i ≤ j → j < i + q → c j = c' j) : vlr gain q i c = vlr gain q i c' := by
  induction q generalizing i with
  | zero => rfl
  | succ q ih =>
    show gain i (c i) + vlr gain q (i + 1) c = gain i (c' i) + vlr gain q (i + 1) c'
    rw [g i (Nat.le_refl _) (by omega), ih (fun j h1 h2 => g j (by omega) (by omega))]
theorem vl_sn {gain : Nat → Nat → Nat} {q i : Nat} {c : Nat → Nat} : vlr gain (q + 1) i c = vlr gain q i c + gain (i + q) (c (i + q)) := by
  induction q generalizing i with
  | zero => show gain i (c i) + 0 = 0 + gain i (c i); omega
  | succ q ih =>
    show gain i (c i) + vlr gain (q + 1) (i + 1) c = (gain i (c i) + vlr gain q (i + 1) c) + gain (i + (q + 1)) (c (i + (q + 1)))
    rw [ih, show i + 1 + q = i + (q + 1) by omega]
    omega
theorem CP_flat {must : Nat → Bool} {ban : Nat → Nat → Nat → Nat → Bool} {q i : Nat} {A : Nat → Nat → Bool} {c : Nat → Nat} : CPr must ban q i A c ↔ (∀ t, i ≤ t → t < i + q → usA must A t (c t) = true) ∧ ∀ j k, i ≤ j → j < k → k < i + q → c k < 16 → ban j (c j) k (c k) = false := by
  induction q generalizing i A with
  | zero => exact ⟨fun _ => ⟨fun t h1 h2 => by omega, fun j k h1 h2 h3 => by omega⟩, fun _ => trivial⟩
  | succ q ih =>
    show (usA must A i (c i) = true ∧ CPr must ban q (i + 1) (fun j s => A j s && !(ban i (c i) j s)) c) ↔ _
    rw [ih]
    constructor
    · rintro ⟨h1, h2, h3⟩
      refine ⟨fun t t1 t2 => ?_, fun j k k1 k2 k3 k4 => ?_⟩
      · by_cases e : t = i
        · subst e; exact h1
        · exact us_mo (fun s _ w => by rw [Bool.and_eq_true] at w; exact w.1) (h2 t (by omega) (by omega))
      · by_cases e : j = i
        · subst e
          have := h2 k (by omega) (by omega)
          unfold usA at this
          rw [if_pos k4, Bool.and_eq_true] at this
          simpa using this.2
        · exact h3 j k (by omega) k2 (by omega) k4
    · rintro ⟨h2, h3⟩
      refine ⟨h2 i (Nat.le_refl _) (by omega), fun t t1 t2 => ?_, fun j k k1 k2 k3 k4 => h3 j k (by omega) k2 (by omega) k4⟩
      have := h2 t (by omega) (by omega)
      unfold usA at *
      split
      · rename_i q1
        rw [if_pos q1] at this
        show (A t (c t) && !(ban i (c i) t (c t))) = true
        rw [this, h3 i t (Nat.le_refl _) (by omega) (by omega) q1]
        rfl
      · rename_i q1
        rw [if_neg q1] at this
        exact this
theorem vl_le {gain : Nat → Nat → Nat} {q i : Nat} {c : Nat → Nat} (g : ∀ j r, gain j r ≤ 200000) : vlr gain q i c ≤ 200000 * q := by
  induction q generalizing i with
  | zero => exact Nat.zero_le _
  | succ q ih =>
    show gain i (c i) + vlr gain q (i + 1) c ≤ 200000 * (q + 1)
    have := g i (c i)
    have := ih (i := i + 1)
    omega
