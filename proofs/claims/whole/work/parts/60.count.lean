/-! PURE PART: counting bits -/
theorem bb_and (x y : Int32) (k : Nat) : bb (x &&& y) k = (bb x k && bb y k) := by
  unfold bb
  rw [Int32.toBitVec_and]
  exact BitVec.getLsbD_and
theorem nI_and {a b : Nat} (ha : a < 2 ^ 32) (hb : b < 2 ^ 32) : nI a &&& nI b = nI (a &&& b) := by
  have hab : a &&& b < 2 ^ 32 := Nat.lt_of_le_of_lt Nat.and_le_left ha
  apply bb_ext
  intro k _
  rw [bb_and, bb_nI ha, bb_nI hb, bb_nI hab, Nat.testBit_and]
theorem ush_n {a s : Nat} (ha : a < 2 ^ 32) (hs : ((((nI s).toUInt32) &&& Int32.toUInt32 31).toBitVec % 32).toNat = s) : ush (nI a) (nI s) = nI (a / 2 ^ s) := by
  unfold ush
  exact pk_ushrN ha (nI s) s hs
def bc1 (k : Nat) : Nat := Nat.sub k (Nat.land (Nat.div k 2) 1431655765)
def bc2 (k : Nat) : Nat := Nat.add (Nat.land k 858993459) (Nat.land (Nat.div k 4) 858993459)
def bc3 (k : Nat) : Nat := Nat.land (Nat.add k (Nat.div k 16)) 252645135
def bc4 (k : Nat) : Nat := Nat.add k (Nat.div k 256)
def bc5 (k : Nat) : Nat := Nat.land (Nat.add k (Nat.div k 65536)) 63
def bcN (k : Nat) : Nat := bc5 (bc4 (bc3 (bc2 (bc1 k))))
def pcN (k : Nat) : Nat := cnt (fun j => k.testBit j) 16
def pcM (k : Nat) : Nat := Nat.add (Nat.add (Nat.add (Nat.add (Nat.add (Nat.add (Nat.add (Nat.add (Nat.add (Nat.add (Nat.add (Nat.add (Nat.add (Nat.add (Nat.add (Nat.mod (Nat.div k 1) 2) (Nat.mod (Nat.div k 2) 2)) (Nat.mod (Nat.div k 4) 2)) (Nat.mod (Nat.div k 8) 2)) (Nat.mod (Nat.div k 16) 2)) (Nat.mod (Nat.div k 32) 2)) (Nat.mod (Nat.div k 64) 2)) (Nat.mod (Nat.div k 128) 2)) (Nat.mod (Nat.div k 256) 2)) (Nat.mod (Nat.div k 512) 2)) (Nat.mod (Nat.div k 1024) 2)) (Nat.mod (Nat.div k 2048) 2)) (Nat.mod (Nat.div k 4096) 2)) (Nat.mod (Nat.div k 8192) 2)) (Nat.mod (Nat.div k 16384) 2)) (Nat.mod (Nat.div k 32768) 2)
def ckN : Nat → Nat → Bool
  | 0, _ => true
  | c + 1, k => Nat.beq (bcN k) (pcM k) && ckN c (Nat.succ k)
theorem ck_ok {c k j : Nat} (h : ckN c k = true) (h1 : k ≤ j) (h2 : j < k + c) : bcN j = pcM j := by
  induction c generalizing k with
  | zero => omega
  | succ c ih =>
    have h : (Nat.beq (bcN k) (pcM k) && ckN c (k + 1)) = true := h
    rw [Bool.and_eq_true] at h
    by_cases q : j = k
    · subst q; exact Nat.eq_of_beq_eq_true h.1
    · exact ih h.2 (by omega) (by omega)
theorem ck_0 : ckN 4096 0 = true := by decide +kernel
theorem ck_1 : ckN 4096 4096 = true := by decide +kernel
theorem ck_2 : ckN 4096 8192 = true := by decide +kernel
theorem ck_3 : ckN 4096 12288 = true := by decide +kernel
theorem ck_4 : ckN 4096 16384 = true := by decide +kernel
theorem ck_5 : ckN 4096 20480 = true := by decide +kernel
theorem ck_6 : ckN 4096 24576 = true := by decide +kernel
theorem ck_7 : ckN 4096 28672 = true := by decide +kernel
theorem ck_8 : ckN 4096 32768 = true := by decide +kernel
theorem ck_9 : ckN 4096 36864 = true := by decide +kernel
theorem ck_10 : ckN 4096 40960 = true := by decide +kernel
theorem ck_11 : ckN 4096 45056 = true := by decide +kernel
theorem ck_12 : ckN 4096 49152 = true := by decide +kernel
theorem ck_13 : ckN 4096 53248 = true := by decide +kernel
theorem ck_14 : ckN 4096 57344 = true := by decide +kernel
theorem ck_15 : ckN 4096 61440 = true := by decide +kernel
theorem bcM_all {k : Nat} (h : k < 65536) : bcN k = pcM k := by
  by_cases h0 : k < 4096
  · exact ck_ok ck_0 (by omega) (by omega)
  by_cases h1 : k < 8192
  · exact ck_ok ck_1 (by omega) (by omega)
  by_cases h2 : k < 12288
  · exact ck_ok ck_2 (by omega) (by omega)
  by_cases h3 : k < 16384
  · exact ck_ok ck_3 (by omega) (by omega)
  by_cases h4 : k < 20480
  · exact ck_ok ck_4 (by omega) (by omega)
  by_cases h5 : k < 24576
  · exact ck_ok ck_5 (by omega) (by omega)
  by_cases h6 : k < 28672
  · exact ck_ok ck_6 (by omega) (by omega)
  by_cases h7 : k < 32768
  · exact ck_ok ck_7 (by omega) (by omega)
  by_cases h8 : k < 36864
  · exact ck_ok ck_8 (by omega) (by omega)
  by_cases h9 : k < 40960
  · exact ck_ok ck_9 (by omega) (by omega)
  by_cases h10 : k < 45056
  · exact ck_ok ck_10 (by omega) (by omega)
  by_cases h11 : k < 49152
  · exact ck_ok ck_11 (by omega) (by omega)
  by_cases h12 : k < 53248
  · exact ck_ok ck_12 (by omega) (by omega)
  by_cases h13 : k < 57344
  · exact ck_ok ck_13 (by omega) (by omega)
  by_cases h14 : k < 61440
  · exact ck_ok ck_14 (by omega) (by omega)
  exact ck_ok ck_15 (by omega) (by omega)
theorem tb_m (k j : Nat) : (if k.testBit j = true then 1 else 0) = Nat.mod (Nat.div k (2 ^ j)) 2 := by
  rw [Nat.testBit_eq_decide_div_mod_eq]
  show _ = (k / 2 ^ j) % 2
  by_cases q : (k / 2 ^ j) % 2 = 1
  · rw [if_pos (by simp [q]), q]
  · rw [if_neg (by simp [q])]; omega
theorem pc_eq (k : Nat) : pcN k = pcM k := by
  unfold pcN pcM cnt
  simp only [cnt, tb_m]
  rw [Nat.zero_add]
  rfl
theorem bcN_eq {k : Nat} (h : k < 65536) : bcN k = pcN k := by rw [bcM_all h, pc_eq]
theorem bitCount_n {k : Nat} {m : Me} (h : k < 65536) : f_Integer_bitCount (nI k) m = some (nI (bcN k)) := by
  unfold f_Integer_bitCount bcN
  simp only [bd]
  have b1 : (k / 2) &&& 1431655765 ≤ k := Nat.le_trans Nat.and_le_left (by omega)
  rw [show ush (nI k) (1 : Int32) = nI (k / 2 ^ 1) from ush_n (s := 1) (by omega) (by decide), show nI (k / 2 ^ 1) &&& (1431655765 : Int32) = nI ((k / 2 ^ 1) &&& 1431655765) from nI_and (b := 1431655765) (by omega) (by decide), show k / 2 ^ 1 = k / 2 by omega, pk_sub b1]
  have e1 : bc1 k ≤ 65535 := by show k - (k / 2 &&& 1431655765) ≤ 65535; omega
  show _ = some (nI (bc5 (bc4 (bc3 (bc2 (bc1 k))))))
  rw [show k - (k / 2 &&& 1431655765) = bc1 k from rfl]
  generalize bc1 k = v at *
  rw [show ush (nI v) (2 : Int32) = nI (v / 2 ^ 2) from ush_n (s := 2) (by omega) (by decide), show nI v &&& (858993459 : Int32) = nI (v &&& 858993459) from nI_and (b := 858993459) (by omega) (by decide), show nI (v / 2 ^ 2) &&& (858993459 : Int32) = nI ((v / 2 ^ 2) &&& 858993459) from nI_and (b := 858993459) (by omega) (by decide), nI_add, show v / 2 ^ 2 = v / 4 by omega]
  have e2 : bc2 v ≤ 131070 := by
    have h1 : v &&& 858993459 ≤ v := Nat.and_le_left
    have h2 : (v / 4) &&& 858993459 ≤ v / 4 := Nat.and_le_left
    show (v &&& 858993459) + (v / 4 &&& 858993459) ≤ 131070
    omega
  rw [show (v &&& 858993459) + (v / 4 &&& 858993459) = bc2 v from rfl]
  generalize bc2 v = w at *
  rw [show ush (nI w) (4 : Int32) = nI (w / 2 ^ 4) from ush_n (s := 4) (by omega) (by decide), nI_add, show nI (w + w / 2 ^ 4) &&& (252645135 : Int32) = nI ((w + w / 2 ^ 4) &&& 252645135) from nI_and (b := 252645135) (by omega) (by decide), show w / 2 ^ 4 = w / 16 by omega]
  have e3 : bc3 w ≤ 262140 := by
    have h1 : (w + w / 16) &&& 252645135 ≤ w + w / 16 := Nat.and_le_left
    show (w + w / 16) &&& 252645135 ≤ 262140
    omega
  rw [show (w + w / 16) &&& 252645135 = bc3 w from rfl]
  generalize bc3 w = u at *
  rw [show ush (nI u) (8 : Int32) = nI (u / 2 ^ 8) from ush_n (s := 8) (by omega) (by decide), nI_add, show u / 2 ^ 8 = u / 256 by omega]
  have e4 : bc4 u ≤ 1000000 := by show u + u / 256 ≤ 1000000; omega
  rw [show u + u / 256 = bc4 u from rfl]
  generalize bc4 u = t at *
  rw [show ush (nI t) (16 : Int32) = nI (t / 2 ^ 16) from ush_n (s := 16) (by omega) (by decide), nI_add, show nI (t + t / 2 ^ 16) &&& (63 : Int32) = nI ((t + t / 2 ^ 16) &&& 63) from nI_and (b := 63) (by omega) (by decide), show t / 2 ^ 16 = t / 65536 by omega]
  rfl
theorem bits16 {x : Int32} (h : ∀ k, 16 ≤ k → bb x k = false) : ∃ k, k < 65536 ∧ x = nI k := by
  refine ⟨x.toBitVec.toNat, Nat.lt_pow_two_of_testBit (n := 16) _ (fun i hi => h i hi), ?_⟩
  apply Int32.toBitVec_inj.mp
  apply BitVec.eq_of_toNat_eq
  rw [pk_tn x.toBitVec.isLt]
theorem bitCount_eq {x : Int32} {m : Me} (h : ∀ k, 16 ≤ k → bb x k = false) : f_Integer_bitCount x m = some (nI (cnt (bb x) 16)) := by
  obtain ⟨k, hk, rfl⟩ := bits16 h
  rw [bitCount_n hk, bcN_eq hk]
  unfold pcN
  congr 2
  refine cnt_cg (fun i _ => ?_)
  rw [bb_nI (by omega)]
