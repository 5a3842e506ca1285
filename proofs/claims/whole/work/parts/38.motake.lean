/-! PURE PART: the reference's rows of a box -/
theorem wl_lit {ρ : Type} {m : Me} {o n k : Nat} {kI : Int32} {v : Int64} {K : Me → Option ρ} (hk : kI = nI k) (h : k < n) (hn : n < 2 ^ 31) : wl m o n kI v K = K (sl m o k v) := by
  subst hk; exact wl_n h hn
theorem rd_lit {α ρ : Type} {n k : Nat} {kI : Int32} {f : Nat → α} {K : α → Option ρ} (hk : kI = nI k) (h : k < n) (hn : n < 2 ^ 31) : rd n kI f K = K (f k) := by
  subst hk; exact rd_n h hn
theorem mb16 {m : Me} {l t : Int} {w h : Nat} : (mbox m l t w h).1 200 16 = iI l ∧ (mbox m l t w h).1 200 17 = iI t ∧ (mbox m l t w h).1 200 18 = nI w ∧ (mbox m l t w h).1 200 19 = nI h := by
  unfold mbox
  refine ⟨?_, ?_, ?_, ?_⟩ <;> simp [si1]
theorem mb_o {m : Me} {l t : Int} {w h o : Nat} (ho : o ≠ 200) : (mbox m l t w h).1 o = m.1 o := by
  unfold mbox
  rw [si_o ho, si_o ho, si_o ho, si_o ho]
theorem mb_2 {m : Me} {l t : Int} {w h : Nat} : (mbox m l t w h).2 = m.2 := rfl
theorem i2_long {x : Int} (h1 : -2000000000 ≤ x) (h2 : x ≤ 2000000000) : (2 : Int64) * (iI x).toInt64 = iL (2 * x) := by
  rw [iI_long (by omega) (by omega), ← iL_mul]; rfl
/-- the eight numbers of a row -/
def Rw (m : Me) (o : Nat) (l t r b fx fy tx ty : Int) : Prop := m.2 o 0 = iL (2 * l) ∧ m.2 o 1 = iL (2 * t) ∧ m.2 o 2 = iL (2 * r) ∧ m.2 o 3 = iL (2 * b) ∧ m.2 o 4 = iL fx ∧ m.2 o 5 = iL fy ∧ m.2 o 6 = iL tx ∧ m.2 o 7 = iL ty
theorem lt_rg {a : Ch} {i w z : Nat} (hz : z < 7) (hN : NmS a i) : -340 ≤ lS a i w z - ((a 2 i * 2 ^ z : Nat) : Int) ∧ lS a i w z - ((a 2 i * 2 ^ z : Nat) : Int) ≤ 40 ∧ -200 ≤ tS a i w z - ((a 3 i * 2 ^ z : Nat) : Int) ∧ tS a i w z - ((a 3 i * 2 ^ z : Nat) : Int) ≤ 40 ∧ bwS a i w ≤ 300 ∧ bhS a i w ≤ 160 ∧ 1 ≤ bwS a i w ∧ 1 ≤ bhS a i w ∧ a 2 i * 2 ^ z ≤ 64000 ∧ a 3 i * 2 ^ z ≤ 64000 := by
  obtain ⟨n1, n2, n3, n4, n5, n6, n7, -⟩ := hN
  have p : 2 ^ z ≤ 64 := by
    have := Nat.pow_le_pow_right (n := 2) (by decide) (show z ≤ 6 by omega)
    exact this
  have x1 : a 2 i * 2 ^ z ≤ 1000 * 64 := Nat.mul_le_mul n2 p
  have x2 : a 3 i * 2 ^ z ≤ 1000 * 64 := Nat.mul_le_mul n3 p
  have b1 : bwS a i w ≤ 300 ∧ 1 ≤ bwS a i w := by unfold bwS; split <;> omega
  have b2 : bhS a i w ≤ 160 ∧ 1 ≤ bhS a i w := by unfold bhS; split <;> omega
  have o1 : offS a i w = 40 ∨ offS a i w = 2 := by unfold offS; split <;> simp
  have hb : turnS a i w = true → offS a i w = 2 := by
    unfold turnS offS ledS
    intro h
    simp at h
    rw [if_neg (by simp; omega)]
  have b3 : offS a i w = 40 → bhS a i w ≤ 80 := by
    intro h
    by_cases q : turnS a i w = true
    · rw [hb q] at h; omega
    · unfold bhS; rw [if_neg q]; omega
  unfold lS tS stS
  generalize bwS a i w = W at *
  generalize bhS a i w = Hh at *
  generalize offS a i w = O at *
  generalize a 2 i * 2 ^ z = X at *
  generalize a 3 i * 2 ^ z = Y at *
  refine ⟨?_, ?_, ?_, ?_, b1.1, b2.1, b1.2, b2.2, x1, x2⟩ <;> (repeat' split) <;> omega
set_option maxHeartbeats 1000000 in
theorem take_ok {m : Me} {o : Nat} {a : Ch} {i w z : Nat} (h8 : ln o = 8) (hi : i < 24) (hw : w < 16) (hz : z < 7) (hN : NmS a i) (hM : NmM m a i) :
    ∃ m', f_Mo_take o (nI i) (nI w) (nI z) m = some m' ∧ m'.1 = (mbox m (lS a i w z) (tS a i w z) (bwS a i w) (bhS a i w)).1 ∧
      Rw m' o (lS a i w z) (tS a i w z) (lS a i w z + bwS a i w) (tS a i w z + bhS a i w) (2 * ((a 2 i * 2 ^ z : Nat) : Int)) (2 * ((a 3 i * 2 ^ z : Nat) : Int)) (2 * lS a i w z + bwS a i w) (2 * tS a i w z + bhS a i w) ∧ ∀ o', o' ≠ o → m'.2 o' = m.2 o' := by
  obtain ⟨g1, g2, g3, g4, g5, g6, g7, g8, g9, g10⟩ := lt_rg (w := w) hz hN
  have hN' := hN
  obtain ⟨n1, n2, n3, n4, n5, n6, n7, -⟩ := hN
  have s12 : nI (a 2 i) <<< (nI z &&& 31) = nI (a 2 i * 2 ^ z) := nI_shl hz (by omega)
  have s13 : nI (a 3 i) <<< (nI z &&& 31) = nI (a 3 i * 2 ^ z) := nI_shl hz (by omega)
  have m202 : (mbox m (lS a i w z) (tS a i w z) (bwS a i w) (bhS a i w)).1 202 i = nI (a 2 i) := by rw [mb_o (by decide)]; exact hM.2.1
  have m203 : (mbox m (lS a i w z) (tS a i w z) (bwS a i w) (bhS a i w)).1 203 i = nI (a 3 i) := by rw [mb_o (by decide)]; exact hM.2.2.1
  obtain ⟨q1, q2, q3, q4⟩ := mb16 (m := m) (l := lS a i w z) (t := tS a i w z) (w := bwS a i w) (h := bhS a i w)
  unfold f_Mo_take
  rw [mobox_ok hi hw hz hN' hM]
  simp only [cP]
  generalize hB : mbox m (lS a i w z) (tS a i w z) (bwS a i w) (bhS a i w) = B at *
  have hB2 : B.2 = m.2 := by rw [← hB]; rfl
  rw [h8]
  rw [wl_lit (k := 0) (kI := 0) rfl (by decide) (by decide), wl_lit (k := 1) (kI := 1) rfl (by decide) (by decide), wl_lit (k := 2) (kI := 2) rfl (by decide) (by decide), wl_lit (k := 3) (kI := 3) rfl (by decide) (by decide)]
  rw [show ln 202 = 24 from rfl, rd_n hi (by decide), wl_lit (k := 4) (kI := 4) rfl (by decide) (by decide)]
  rw [show ln 203 = 24 from rfl, rd_n hi (by decide), wl_lit (k := 5) (kI := 5) rfl (by decide) (by decide), wl_lit (k := 6) (kI := 6) rfl (by decide) (by decide), wl_lit (k := 7) (kI := 7) rfl (by decide) (by decide)]
  simp only [sl1, q1, q2, q3, q4, m202, m203, s12, s13]
  have k1 : (2 : Int64) * (iI (lS a i w z)).toInt64 = iL (2 * lS a i w z) := i2_long (by omega) (by omega)
  have k2 : (2 : Int64) * (iI (tS a i w z)).toInt64 = iL (2 * tS a i w z) := i2_long (by omega) (by omega)
  have k3 : (2 : Int64) * (iI (lS a i w z) + nI (bwS a i w)).toInt64 = iL (2 * (lS a i w z + bwS a i w)) := by rw [nI_i, iI_add]; exact i2_long (by omega) (by omega)
  have k4 : (2 : Int64) * (iI (tS a i w z) + nI (bhS a i w)).toInt64 = iL (2 * (tS a i w z + bhS a i w)) := by rw [nI_i, iI_add]; exact i2_long (by omega) (by omega)
  have k5 : (2 : Int64) * (nI (a 2 i * 2 ^ z)).toInt64 = iL (2 * ((a 2 i * 2 ^ z : Nat) : Int)) := by rw [nI_i]; exact i2_long (by omega) (by omega)
  have k6 : (2 : Int64) * (nI (a 3 i * 2 ^ z)).toInt64 = iL (2 * ((a 3 i * 2 ^ z : Nat) : Int)) := by rw [nI_i]; exact i2_long (by omega) (by omega)
  have k7 : (nI (bwS a i w)).toInt64 = iL (bwS a i w) := by rw [nI_i]; exact iI_long (by omega) (by omega)
  have k8 : (nI (bhS a i w)).toInt64 = iL (bhS a i w) := by rw [nI_i]; exact iI_long (by omega) (by omega)
  rw [k1, k2, k3, k4, k5, k6, k7, k8, iL_add, iL_add]
  refine ⟨_, rfl, rfl, ?_, ?_⟩
  · unfold Rw
    refine ⟨?_, ?_, ?_, ?_, ?_, ?_, ?_, ?_⟩ <;> simp [sl2]
  · intro o' ho
    funext j
    simp [sl2, ho, hB2]
