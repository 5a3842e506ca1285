/-! PURE PART, BEST: clash is symmetric; sums over the order; bits of longs -/
theorem hit_sym {L1 L2 : Bool} {l t r b fx fy tx ty l2 t2 r2 b2 gx gy hx hy : Int} (h : hitI L1 L2 l t r b fx fy tx ty l2 t2 r2 b2 gx gy hx hy) : hitI L2 L1 l2 t2 r2 b2 gx gy hx hy l t r b fx fy tx ty := by
  unfold hitI at *
  rcases h with h | h | h | ⟨h1, h2, h3⟩
  · obtain ⟨o1, o2, o3, o4⟩ := h
    exact Or.inl ⟨o2, o1, o4, o3⟩
  · exact Or.inr (Or.inr (Or.inl h))
  · exact Or.inr (Or.inl h)
  · refine Or.inr (Or.inr (Or.inr ⟨h2, h1, ?_⟩))
    unfold meetI at *
    obtain ⟨⟨a1, a2⟩, a3, a4⟩ := h3
    refine ⟨⟨?_, ?_⟩, a4, a3⟩
    · rintro (w | w)
      · exact a1 (Or.inr ⟨w.1, w.2.1, w.2.2.1, w.2.2.2⟩)
      · exact a1 (Or.inl ⟨w.1, w.2.1, w.2.2.1, w.2.2.2⟩)
    · rintro (w | w)
      · exact a2 (Or.inr ⟨w.1, w.2.1, w.2.2.1, w.2.2.2⟩)
      · exact a2 (Or.inl ⟨w.1, w.2.1, w.2.2.1, w.2.2.2⟩)
theorem clB_sym (a : Ch) (i w j v z : Nat) : clB a i w j v z = clB a j v i w z := by
  unfold clB
  congr 1
  exact propext ⟨hit_sym, hit_sym⟩
theorem sum_ins {f : Nat → Nat} {L : Nat → Nat} {x p y : Nat} (h : p ≤ y) : sumS (fun j => f (insS L x p j)) (y + 1) = sumS (fun j => f (L j)) y + f x := by
  induction y with
  | zero =>
    have : p = 0 := by omega
    subst this
    rfl
  | succ y ih =>
    have e1 : sumS (fun j => f (insS L x p j)) (y + 1 + 1) = sumS (fun j => f (insS L x p j)) (y + 1) + f (insS L x p (y + 1)) := rfl
    by_cases q : p = y + 1
    · rw [e1, show insS L x p (y + 1) = x by unfold insS; rw [if_neg (by omega), if_pos q.symm]]
      congr 1
      refine sum_cg (fun i hi => ?_)
      show f (insS L x p i) = f (L i)
      unfold insS
      rw [if_pos (by omega)]
    · have e2 : sumS (fun j => f (L j)) (y + 1) = sumS (fun j => f (L j)) y + f (L y) := rfl
      rw [e1, ih (by omega), e2, show insS L x p (y + 1) = L y by unfold insS; rw [if_neg (by omega), if_neg (by omega)]; rfl]
      omega
theorem sum_q (f : Nat → Nat) (a : Ch) (x : Nat) : sumS (fun j => f (qS a x j)) x = sumS f x := by
  induction x with
  | zero => rfl
  | succ x ih =>
    show sumS (fun j => f (insS (qS a x) x (pS (fun t => ahB a x (qS a x t)) x) j)) (x + 1) = sumS f x + f x
    rw [sum_ins (pS_le _ x), ih]
/-! longs -/
def bl (x : Int64) (k : Nat) : Bool := x.toBitVec.getLsbD k
theorem bl_and (x y : Int64) (k : Nat) : bl (x &&& y) k = (bl x k && bl y k) := by
  unfold bl
  rw [Int64.toBitVec_and]
  exact BitVec.getLsbD_and
theorem bl_or (x y : Int64) (k : Nat) : bl (x ||| y) k = (bl x k || bl y k) := by
  unfold bl
  rw [Int64.toBitVec_or]
  exact BitVec.getLsbD_or
theorem bl_0 (k : Nat) : bl 0 k = false := by
  unfold bl
  show (0#64).getLsbD k = false
  exact BitVec.getLsbD_zero
theorem bl_not {x : Int64} {k : Nat} (hk : k < 64) : bl (x ^^^ (-1 : Int64)) k = !(bl x k) := by
  unfold bl
  rw [Int64.toBitVec_xor, BitVec.getLsbD_xor, show (-1 : Int64).toBitVec = BitVec.allOnes 64 from by decide, BitVec.getLsbD_allOnes]
  simp [hk]
theorem bl_ge {x : Int64} {k : Nat} (hk : 64 ≤ k) : bl x k = false := BitVec.getLsbD_of_ge _ _ hk
theorem bl_ext {x y : Int64} (h : ∀ k, k < 64 → bl x k = bl y k) : x = y := by
  apply Int64.toBitVec_inj.mp
  apply BitVec.eq_of_getLsbD_eq
  intro i hi
  exact h i hi
theorem bl_n {n : Nat} (h : n < 2 ^ 31) (k : Nat) : bl ((nI n).toInt64) k = n.testBit k := by
  rw [nI_l h]
  unfold bl BitVec.getLsbD
  congr 1
  show (BitVec.ofNat 64 n).toNat = n
  rw [BitVec.toNat_ofNat]
  exact Nat.mod_eq_of_lt (by omega)
theorem smod64 {i : Nat} (h : i < 4) : (((nI (16 * i)).toInt64 &&& 63).toBitVec.smod 64).toNat = 16 * i := by
  rcases (show i = 0 ∨ i = 1 ∨ i = 2 ∨ i = 3 by omega) with rfl | rfl | rfl | rfl <;> decide
theorem bl_lsh {x : Int64} {i k : Nat} (hi : i < 4) (hk : k < 64) : bl (lsh x (nI (16 * i))) k = (decide (16 * i ≤ k) && bl x (k - 16 * i)) := by
  unfold bl lsh
  rw [Int64.toBitVec_shiftLeft, BitVec.shiftLeft_eq', smod64 hi, BitVec.getLsbD_shiftLeft]
  by_cases c : 16 * i ≤ k
  · simp [hk, c, show ¬ k < 16 * i by omega]
  · simp [hk, c, show k < 16 * i by omega]
theorem umod64 {i : Nat} (h : i < 4) : (((nI (16 * i)).toInt64.toUInt64 &&& Int64.toUInt64 63).toBitVec % 64).toNat = 16 * i := by
  rcases (show i = 0 ∨ i = 1 ∨ i = 2 ∨ i = 3 by omega) with rfl | rfl | rfl | rfl <;> decide
theorem bl_lush {x : Int64} {i k : Nat} (hi : i < 4) : bl (lush x (nI (16 * i))) k = bl x (16 * i + k) := by
  unfold bl lush
  show (x.toUInt64 >>> ((nI (16 * i)).toInt64.toUInt64 &&& Int64.toUInt64 63)).toBitVec.getLsbD k = _
  rw [UInt64.toBitVec_shiftRight, BitVec.ushiftRight_eq', umod64 hi, BitVec.getLsbD_ushiftRight]
  rfl
theorem bb_l {x : Int64} {k : Nat} : bb (x.toInt32) k = (decide (k < 32) && bl x k) := by
  unfold bb bl
  rw [Int64.toBitVec_toInt32, BitVec.getLsbD_signExtend]
  by_cases c : k < 32
  · simp [c, show k < 64 by omega]
  · simp [c]
/-- bit s of member j in the two longs -/
def av (F B : Int64) (j s : Nat) : Bool := if j < 4 then bl F (16 * j + s) else bl B (16 * (j - 4) + s)
theorem av_and (F B F' B' : Int64) (j s : Nat) : av (F &&& F') (B &&& B') j s = (av F B j s && av F' B' j s) := by
  unfold av
  split <;> rw [bl_and]
theorem av_or (F B F' B' : Int64) (j s : Nat) : av (F ||| F') (B ||| B') j s = (av F B j s || av F' B' j s) := by
  unfold av
  split <;> rw [bl_or]
theorem av_not {F B : Int64} {j s : Nat} (hj : j < 8) (hs : s < 16) : av (F ^^^ (-1 : Int64)) (B ^^^ (-1 : Int64)) j s = !(av F B j s) := by
  unfold av
  split <;> rw [bl_not (by omega)]
theorem av_0 (j s : Nat) : av 0 0 j s = false := by
  unfold av
  split <;> rw [bl_0]
theorem front_eq {i n : Nat} {m : Me} (hi : i < 8) : ∃ F B, f_Search_inFront (nI i) (nI n) m = some F ∧ (∀ m', f_Search_inFront (nI i) (nI n) m' = some F) ∧ (∀ m', f_Search_inBack (nI i) (nI n) m' = some B) ∧ ∀ j s, n < 65536 → j < 8 → s < 16 → av F B j s = (decide (j = i) && n.testBit s) := by
  unfold f_Search_inFront f_Search_inBack
  by_cases c : i < 4
  · refine ⟨lsh (nI n).toInt64 (nI (16 * i)), 0, ?_, ?_, ?_, ?_⟩
    · rw [if_neg (show ¬ (4 : Int32) ≤ nI i from nI_ge (b := 4) c (by decide)), show (16 : Int32) * nI i = nI (16 * i) from pk_mul 16 i]
    · intro m'
      rw [if_neg (show ¬ (4 : Int32) ≤ nI i from nI_ge (b := 4) c (by decide)), show (16 : Int32) * nI i = nI (16 * i) from pk_mul 16 i]
    · intro m'
      rw [if_neg (show ¬ (4 : Int32) ≤ nI i from nI_ge (b := 4) c (by decide))]
    · intro j s hn hj hs
      unfold av
      by_cases q : j < 4
      · rw [if_pos q, bl_lsh c (by omega), bl_n (by omega)]
        by_cases e : j = i
        · subst e; simp
        · rcases Nat.lt_or_ge j i with w | w
          · simp [e, show ¬ 16 * i ≤ 16 * j + s by omega]
          · have : n.testBit (16 * j + s - 16 * i) = false := Nat.testBit_lt_two_pow (Nat.lt_of_lt_of_le hn (show 65536 ≤ 2 ^ (16 * j + s - 16 * i) from by
              have := Nat.pow_le_pow_right (n := 2) (by decide) (show 16 ≤ 16 * j + s - 16 * i by omega)
              exact this))
            simp [e, this]
      · rw [if_neg q, bl_0]
        simp [show ¬ j = i by omega]
  · refine ⟨0, lsh (nI n).toInt64 (nI (16 * (i - 4))), ?_, ?_, ?_, ?_⟩
    · rw [if_pos (show (4 : Int32) ≤ nI i from nI_le (a := 4) (by omega) (by omega))]
    · intro m'
      rw [if_pos (show (4 : Int32) ≤ nI i from nI_le (a := 4) (by omega) (by omega))]
    · intro m'
      rw [if_pos (show (4 : Int32) ≤ nI i from nI_le (a := 4) (by omega) (by omega)), show nI i - (4 : Int32) = nI (i - 4) from pk_sub (b := 4) (by omega), show (16 : Int32) * nI (i - 4) = nI (16 * (i - 4)) from pk_mul 16 _]
    · intro j s hn hj hs
      unfold av
      by_cases q : j < 4
      · rw [if_pos q, bl_0]
        simp [show ¬ j = i by omega]
      · rw [if_neg q, bl_lsh (by omega) (by omega), bl_n (by omega)]
        by_cases e : j = i
        · subst e; simp
        · rcases Nat.lt_or_ge j i with w | w
          · simp [e, show ¬ 16 * (i - 4) ≤ 16 * (j - 4) + s by omega]
          · have : n.testBit (16 * (j - 4) + s - 16 * (i - 4)) = false := Nat.testBit_lt_two_pow (Nat.lt_of_lt_of_le hn (show 65536 ≤ 2 ^ (16 * (j - 4) + s - 16 * (i - 4)) from by
              have := Nat.pow_le_pow_right (n := 2) (by decide) (show 16 ≤ 16 * (j - 4) + s - 16 * (i - 4) by omega)
              exact this))
            simp [e, this]
theorem bb_65535 (k : Nat) : bb (65535 : Int32) k = decide (k < 16) := by
  rw [show (65535 : Int32) = nI (2 ^ 16 - 1) from rfl, bb_nI (by decide), Nat.testBit_two_pow_sub_one]
theorem bitsOf_eq {i : Nat} {F B : Int64} {m : Me} (hi : i < 8) : ∃ u, f_Search_bitsOf (nI i) F B m = some u ∧ (∀ s, s < 16 → bb u s = av F B i s) ∧ ∀ s, 16 ≤ s → bb u s = false := by
  unfold f_Search_bitsOf av
  by_cases c : i < 4
  · refine ⟨(lush F (nI (16 * i))).toInt32 &&& 65535, ?_, ?_, ?_⟩
    · rw [if_neg (show ¬ (4 : Int32) ≤ nI i from nI_ge (b := 4) c (by decide)), show (16 : Int32) * nI i = nI (16 * i) from pk_mul 16 i]
      rfl
    · intro s hs
      rw [if_pos c, bb_and, bb_l, bl_lush c, bb_65535]
      simp [hs, show s < 32 by omega]
    · intro s hs
      rw [bb_and, bb_65535]
      simp [show ¬ s < 16 by omega]
  · refine ⟨(lush B (nI (16 * (i - 4)))).toInt32 &&& 65535, ?_, ?_, ?_⟩
    · rw [if_pos (show (4 : Int32) ≤ nI i from nI_le (a := 4) (by omega) (by omega)), show nI i - (4 : Int32) = nI (i - 4) from pk_sub (b := 4) (by omega), show (16 : Int32) * nI (i - 4) = nI (16 * (i - 4)) from pk_mul 16 _]
      rfl
    · intro s hs
      rw [if_neg c, bb_and, bb_l, bl_lush (by omega), bb_65535]
      simp [hs, show s < 32 by omega]
    · intro s hs
      rw [bb_and, bb_65535]
      simp [show ¬ s < 16 by omega]
