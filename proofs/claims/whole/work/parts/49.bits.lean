/-! PURE PART: bits of a word; the class's rows of a name; the layout -/
def bb (x : Int32) (k : Nat) : Bool := x.toBitVec.getLsbD k
theorem bb_or (x y : Int32) (k : Nat) : bb (x ||| y) k = (bb x k || bb y k) := by
  unfold bb
  rw [Int32.toBitVec_or]
  exact BitVec.getLsbD_or
theorem bb_0 (k : Nat) : bb 0 k = false := by
  unfold bb
  show (0#32).getLsbD k = false
  exact BitVec.getLsbD_zero
theorem bb_nI {n : Nat} (h : n < 2 ^ 32) (k : Nat) : bb (nI n) k = n.testBit k := by
  unfold bb BitVec.getLsbD
  rw [pk_tn h]
theorem nI31 {w : Nat} (h : w < 32) : nI w &&& 31 = nI w := by
  rw [pk_andN (n := w) (by omega) (m := 31) 5 (by decide), Nat.mod_eq_of_lt (by omega)]
theorem smod32 {w : Nat} (h : w < 32) : ((nI w &&& 31).toBitVec.smod 32).toNat = w := by
  have key : ∀ w, w < 32 → ((nI w &&& 31).toBitVec.smod 32).toNat = w := by decide +kernel
  exact key w h
theorem tst {x : Int32} {w : Nat} (h : w < 32) : (((x >>> (nI w &&& 31)) &&& (1 : Int32)) = (1 : Int32)) = (bb x w = true) := by
  have e1 : (x >>> (nI w &&& 31)).toBitVec.getLsbD 0 = x.toBitVec.getLsbD w := by
    rw [Int32.toBitVec_shiftRight, BitVec.sshiftRight_eq', smod32 h, BitVec.getLsbD_sshiftRight]
    simp [h]
  rw [pk_and _ (m := 1) 1 (by decide)]
  have e2 : (x >>> (nI w &&& 31)).toBitVec.toNat.testBit 0 = bb x w := e1
  rw [Nat.testBit_zero] at e2
  rw [← e2]
  apply propext
  rw [show (1 : Int32) = nI 1 from rfl, nI_eq (by omega) (by decide)]
  simp
theorem shl1 {w : Nat} (h : w < 32) : (1 : Int32) <<< (nI w &&& 31) = nI (2 ^ w) := by
  have p : 2 ^ w < 2 ^ 32 := Nat.pow_lt_pow_right (by decide) h
  rw [show (1 : Int32) = nI 1 from rfl, pk_shlN (n := 1) _ w (smod32 h) (by omega), Nat.one_mul]
theorem bb_shl1 {w : Nat} (h : w < 32) (k : Nat) : bb ((1 : Int32) <<< (nI w &&& 31)) k = decide (w = k) := by
  have p : 2 ^ w < 2 ^ 32 := Nat.pow_lt_pow_right (by decide) h
  rw [shl1 h, bb_nI p, Nat.testBit_two_pow]
theorem bb_ext {x y : Int32} (h : ∀ k, k < 32 → bb x k = bb y k) : x = y := by
  apply Int32.toBitVec_inj.mp
  apply BitVec.eq_of_getLsbD_eq
  intro i hi
  exact h i hi
/-! prices -/
def prS (a : Ch) (i w : Nat) : Nat := if w < 8 then 5 * w else 5 * (w - 8) + (if a 1 i = 1 then 20 else 50)
def gaS (a : Ch) (i w : Nat) : Nat := a 6 i * (200 - prS a i w)
theorem prS_le {a : Ch} {i w : Nat} (h : w < 16) : prS a i w ≤ 85 := by
  unfold prS
  repeat' split
  all_goals omega
theorem waysS_le {a : Ch} {i : Nat} : waysS a i ≤ 16 := by unfold waysS; split <;> omega
theorem nI_ne {a b : Nat} (ha : a < 2 ^ 31) (hb : b < 2 ^ 31) (h : a ≠ b) : ¬ nI a = nI b := fun q => h ((nI_eq ha hb).mp q)
theorem ways_eq {m : Me} {n d : Nat} {a : Ch} {i : Nat} (hV : VV n d a) (hC : CC m 10 n d a) (hi : i < n) : f_Chart_waysOf (nI i) m = some (nI (waysS a i)) := by
  have h24 := hV.1
  have hN := (hV.2.2.1 i hi).1
  unfold f_Chart_waysOf waysS
  rw [show ln 11 = 24 from rfl, rd_n (by omega) (by omega), (hC.nm hi).1]
  by_cases c : a 1 i = 0
  · rw [if_pos c, c]; rfl
  · rw [if_neg c, if_neg (nI_ne0 (by omega) (by have := hN.1; omega))]
    rfl
theorem moWays_eq {m : Me} {n d : Nat} {a : Ch} {i : Nat} (hV : VV n d a) (hM : MM m n d a) (hi : i < n) : f_Mo_ways (nI i) m = some (nI (waysS a i)) := by
  have h24 := hV.1
  have hN := (hV.2.2.1 i hi).1
  unfold f_Mo_ways waysS
  rw [show ln 201 = 24 from rfl, rd_n (by omega) (by omega), (hM.nm hi).1]
  by_cases c : a 1 i = 0
  · rw [if_pos c, c]; rfl
  · rw [if_neg c, if_neg (nI_ne0 (by omega) (by have := hN.1; omega))]
    rfl
theorem price_aux {k w : Nat} (hw : w < 16) (hk : k ≤ 3) : (if (8 : Int32) ≤ nI w then (if nI k = (1 : Int32) then some ((((5 : Int32) * ((nI w - (8 : Int32))))) + (20 : Int32)) else some ((((5 : Int32) * ((nI w - (8 : Int32))))) + (50 : Int32))) else some ((5 : Int32) * nI w)) = some (nI (if w < 8 then 5 * w else 5 * (w - 8) + (if k = 1 then 20 else 50))) := by
  by_cases c : w < 8
  · rw [if_neg (show ¬ (8 : Int32) ≤ nI _ from nI_ge (b := 8) c (by decide)), if_pos c, show (5 : Int32) = nI 5 from rfl, pk_mul]
  · rw [if_pos (show (8 : Int32) ≤ nI _ from nI_le (a := 8) (by omega) (by omega)), if_neg c, show nI w - (8 : Int32) = nI (w - 8) from pk_sub (b := 8) (by omega), show (5 : Int32) * nI (w - 8) = nI (5 * (w - 8)) from pk_mul 5 _]
    by_cases q : k = 1
    · subst q
      rw [if_pos rfl, if_pos (show nI 1 = (1 : Int32) from rfl), show nI (5 * (w - 8)) + (20 : Int32) = _ from nI_add _ 20]
    · rw [if_neg (show ¬ nI _ = (1 : Int32) from nI_ne (b := 1) (by omega) (by decide) q), if_neg q, show nI (5 * (w - 8)) + (50 : Int32) = _ from nI_add _ 50]
theorem price_eq {m : Me} {n d : Nat} {a : Ch} {i w : Nat} (hV : VV n d a) (hC : CC m 10 n d a) (hi : i < n) (hw : w < 16) : f_Chart_priceOf (nI i) (nI w) m = some (nI (prS a i w)) := by
  have h24 := hV.1
  have hN := (hV.2.2.1 i hi).1
  unfold f_Chart_priceOf prS
  rw [show ln 11 = 24 from rfl, rd_n (by omega) (by omega), (hC.nm hi).1]
  exact price_aux hw hN.1
theorem moPrice_eq {m : Me} {n d : Nat} {a : Ch} {i w : Nat} (hV : VV n d a) (hM : MM m n d a) (hi : i < n) (hw : w < 16) : f_Mo_priceOf (nI i) (nI w) m = some (nI (prS a i w)) := by
  have h24 := hV.1
  have hN := (hV.2.2.1 i hi).1
  unfold f_Mo_priceOf prS
  rw [show ln 201 = 24 from rfl, rd_n (by omega) (by omega), (hM.nm hi).1]
  exact price_aux hw hN.1
theorem gain_eq {m : Me} {n d : Nat} {a : Ch} {i w : Nat} (hV : VV n d a) (hC : CC m 10 n d a) (hi : i < n) (hw : w < 16) : f_Chart_gainOf (nI i) (nI w) m = some (nI (gaS a i w)) := by
  have h24 := hV.1
  have hp := prS_le (a := a) (i := i) hw
  unfold f_Chart_gainOf gaS
  rw [show ln 16 = 24 from rfl, rd_n (by omega) (by omega), price_eq hV hC hi hw, show m.1 16 i = nI (a 6 i) from hC.2.2.1 6 i (by omega) (by omega) hi]
  simp only [cP]
  rw [show (200 : Int32) - nI (prS a i w) = nI (200 - prS a i w) from pk_sub (a := 200) (by omega), pk_mul]
theorem gaS_le {n d : Nat} {a : Ch} {i w : Nat} (hV : VV n d a) (hi : i < n) : gaS a i w ≤ 200000 := by
  obtain ⟨-, -, -, -, -, -, -, -, h⟩ := (hV.2.2.1 i hi).1
  unfold gaS
  calc a 6 i * (200 - prS a i w) ≤ 1000 * 200 := Nat.mul_le_mul h (by omega)
    _ = 200000 := by decide
theorem gaS_pos {n d : Nat} {a : Ch} {i w : Nat} (hV : VV n d a) (hi : i < n) (hw : w < 16) : 0 < gaS a i w := by
  obtain ⟨-, -, -, -, -, -, -, h, -⟩ := (hV.2.2.1 i hi).1
  have hp := prS_le (a := a) (i := i) hw
  unfold gaS
  exact Nat.mul_pos (by omega) (by omega)
theorem moWorth_eq {m : Me} {n d : Nat} {a : Ch} {i w : Nat} (hV : VV n d a) (hM : MM m n d a) (hi : i < n) (hw : w < 16) : f_Mo_worthOf (nI i) (nI w) m = some (nI (gaS a i w)) := by
  have h24 := hV.1
  have hp := prS_le (a := a) (i := i) hw
  unfold f_Mo_worthOf gaS
  rw [if_neg (show ¬ nI _ = (16 : Int32) from nI_ne (b := 16) (by omega) (by decide) (by omega)), show ln 206 = 24 from rfl, rd_n (by omega) (by omega), moPrice_eq hV hM hi hw, show m.1 206 i = nI (a 6 i) from hM.2.2.1 6 i (by omega) (by omega) hi]
  simp only [cP]
  rw [show (200 : Int32) - nI (prS a i w) = nI (200 - prS a i w) from pk_sub (a := 200) (by omega), pk_mul]
/-! the layout -/
noncomputable def owB (n d : Nat) (a : Ch) (i w : Nat) : Bool := decide (w < waysS a i) && opB n d a i w 0
def bx (i w : Nat) : Nat := 1000 + (i * 16 + w)
def LKi (m : Me) (n d : Nat) (a : Ch) (i : Nat) : Prop := (∀ w, w < waysS a i → BoxAt m (bx i w) a i w 0) ∧ ∀ w, bb (m.1 5 i) w = owB n d a i w
def LK (m : Me) (n d : Nat) (a : Ch) : Prop := ∀ i, i < n → LKi m n d a i
def SLy (o : Nat) (j : Nat) : Prop := (o = 3 ∧ j = 2) ∨ o = 5 ∨ (1000 ≤ o ∧ o < 1384)
theorem BoxAt.same {m m' : Me} {o : Nat} {a : Ch} {i w z : Nat} (h : BoxAt m o a i w z) (e : ∀ j, m'.1 o j = m.1 o j) : BoxAt m' o a i w z := by
  unfold BoxAt at *
  simp only [e]
  exact h
theorem boxOf_eq {m : Me} {i w : Nat} (hi : i < 24) (hw : w < 16) : f_Lay_boxOf (nI i) (nI w) m = some (bx i w) := by
  unfold f_Lay_boxOf
  rw [show ln 4 = 384 from rfl, show nI i * (16 : Int32) = nI (i * 16) from pk_mul i 16, nI_add, rd_n (by omega) (by omega)]
  rfl
theorem kind_ne {a : Ch} {i w : Nat} (h : w < waysS a i) (h8 : 8 ≤ w) : a 1 i ≠ 0 := by
  intro q
  unfold waysS at h
  rw [if_pos q] at h
  omega
set_option maxHeartbeats 1000000 in
theorem refresh_ok {m : Me} {n d : Nat} {a : Ch} (hV : VV n d a) (hC : CC m 10 n d a) (h0 : m.1 3 2 = 0) :
    ∃ m', f_Lay_refresh m = some m' ∧ LK m' n d a ∧ m'.1 3 2 = 1 ∧ Fm SLy m m' := by
  have h24 := hV.1
  have C' : ∀ m', Fm SLy m m' → CC m' 10 n d a := fun m' f => hC.fr f (fun o j _ _ => by unfold SLy; omega)
  unfold f_Lay_refresh
  rw [if_pos h0]
  unfold pz
  rw [if_pos (Or.inr rfl)]
  refine up aM n (fun k m' => Fm SLy m m' ∧ m'.1 3 2 = 1 ∧ ∀ j, j < k → LKi m' n d a j) (fun r => ∃ m', r = some m' ∧ LK m' n d a ∧ m'.1 3 2 = 1 ∧ Fm SLy m m') 0 _ (by omega) (by unfold FU; omega) ⟨Fm.wr (by unfold SLy; omega), si_s, fun j hj => by omega⟩ ?_ ?_
  · rintro f i m1 hi ⟨f1, g1, h1⟩ ih
    have hN := (hV.2.2.1 i hi).1
    show ∃ m', lb_Lay_refresh_15 f (nI i) m1 = some m' ∧ _
    unfold lb_Lay_refresh_15
    rw [(C' m1 f1).1, if_neg (nI_ge hi (by omega)), show ln 5 = 24 from rfl, wi_n (by omega) (by omega)]
    simp only [bd]
    refine up aM (waysS a i) (fun w m' => Fm SLy m m' ∧ m'.1 3 2 = 1 ∧ (∀ j, j < i → LKi m' n d a j) ∧ (∀ u, u < w → BoxAt m' (bx i u) a i u 0) ∧ ∀ u, bb (m'.1 5 i) u = (decide (u < w) && opB n d a i u 0)) (fun r => ∃ m', r = some m' ∧ LK m' n d a ∧ m'.1 3 2 = 1 ∧ Fm SLy m m') 0 _ (by omega) (by have := waysS_le (a := a) (i := i); unfold FU; omega) ⟨f1.wr' (by unfold SLy; omega), ?_, ?_, ?_, ?_⟩ ?_ ?_
    · rw [si1, if_neg (by omega)]; exact g1
    · intro j hj
      obtain ⟨q1, q2⟩ := h1 j hj
      refine ⟨fun w hw => (q1 w hw).same (fun l => by rw [si1, if_neg (by unfold bx; omega)]), fun w => ?_⟩
      rw [si1, if_neg (by omega)]
      exact q2 w
    · intro u hu
      omega
    · intro u
      rw [si_s, bb_0]
      simp
    · rintro g w m2 hw ⟨f2, g2, a2, b2, c2⟩ ih2
      have w16 := waysS_le (a := a) (i := i)
      have C2 := C' m2 f2
      show ∃ m', lb_Lay_refresh_32 (nI i) _ g (nI w) m2 = some m' ∧ _
      unfold lb_Lay_refresh_32
      obtain ⟨m3, e3, B3, o3, -⟩ := lay_ok (m := m2) (o := bx i w) (a := a) (i := i) (w := w) (z := 0) (by unfold bx; omega) (by omega) (by omega) (by omega) hN (C2.nm hi) (kind_ne hw)
      have f3 : Fm SLy m2 m3 := fun o j q => by rw [o3 o (by unfold SLy at q; unfold bx; omega)]
      have C3 := C' m3 (f2.tr f3)
      have q5 : m3.1 5 = m2.1 5 := o3 5 (by unfold bx; omega)
      rw [ways_eq hV C2 hi]
      simp only [cP]
      rw [if_neg (nI_ge hw (by omega)), boxOf_eq (by omega) (by omega)]
      simp only []
      rw [show f_Box_lay (bx i w) (nI i) (nI w) 0 m2 = some m3 from e3]
      simp only []
      rw [show ln 5 = 24 from rfl, rd_n (by omega) (by omega), show f_Box_isOpen (bx i w) 0 m3 = _ from isOpen_eq (z := 0) hV C3 hi (by omega) B3]
      simp only [bd, bI_z, nI_1, wi_n (show i < 24 by omega) (show 24 < 2 ^ 31 by decide)]
      have fin : ∀ v : Int32, (∀ u, bb v u = (decide (u < w + 1) && opB n d a i u 0)) → ∃ m', g (nI (w + 1)) (si m3 5 i v) = some m' ∧ LK m' n d a ∧ m'.1 3 2 = 1 ∧ Fm SLy m m' := by
        intro v hv
        refine ih2 _ ⟨(f2.tr f3).wr' (by unfold SLy; omega), ?_, ?_, ?_, ?_⟩
        · rw [si1, if_neg (by omega), o3 3 (by unfold bx; omega)]; exact g2
        · intro j hj
          obtain ⟨q1, q2⟩ := a2 j hj
          refine ⟨fun u hu => (q1 u hu).same (fun l => ?_), fun u => ?_⟩
          · have := waysS_le (a := a) (i := j)
            rw [si1, if_neg (by unfold bx; omega), o3 _ (by unfold bx; omega)]
          · rw [si1, if_neg (by omega), q5]
            exact q2 u
        · intro u hu
          by_cases q : u = w
          · subst q
            exact B3.same (fun l => by rw [si1, if_neg (by unfold bx; omega)])
          · exact (b2 u (by omega)).same (fun l => by rw [si1, if_neg (by unfold bx; omega), o3 _ (by unfold bx; omega)])
        · rw [si_s]; exact hv
      cases ho : opB n d a i w 0 with
      | true =>
        rw [if_neg (by decide)]
        refine fin _ (fun u => ?_)
        rw [bb_or, q5, c2, bb_shl1 (by omega)]
        by_cases q : u = w
        · subst q; simp [ho]
        · have : w ≠ u := fun e => q e.symm
          by_cases q2 : u < w
          · simp [this, q2, show u < w + 1 by omega]
          · simp [this, q2, show ¬ u < w + 1 by omega]
      | false =>
        rw [if_pos rfl]
        refine fin _ (fun u => ?_)
        rw [bb_or, q5, c2, bb_0]
        by_cases q : u = w
        · subst q; simp [ho]
        · by_cases q2 : u < w
          · simp [q2, show u < w + 1 by omega]
          · simp [q2, show ¬ u < w + 1 by omega]
    · rintro g m2 ⟨f2, g2, a2, b2, c2⟩
      have C2 := C' m2 f2
      have w16 := waysS_le (a := a) (i := i)
      show ∃ m', lb_Lay_refresh_32 (nI i) _ g (nI (waysS a i)) m2 = some m' ∧ _
      unfold lb_Lay_refresh_32
      rw [ways_eq hV C2 hi]
      simp only [cP]
      rw [if_pos (nI_le (Nat.le_refl _) (by omega)), nI_1]
      refine ih _ ⟨f2, g2, fun j hj => ?_⟩
      by_cases q : j = i
      · subst q; exact ⟨b2, c2⟩
      · exact a2 j (by omega)
  · rintro f m1 ⟨f1, g1, h1⟩
    show ∃ m', lb_Lay_refresh_15 f (nI n) m1 = some m' ∧ _
    unfold lb_Lay_refresh_15
    rw [(C' m1 f1).1, if_pos (nI_le (Nat.le_refl _) (by omega))]
    exact ⟨m1, rfl, h1, g1, f1⟩
