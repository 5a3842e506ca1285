/-! PURE PART: where a way stands. A chart's rows a k i: 1 kind, 2 x, 3 y, 4 wide, 5 high, 6 weight, 7 hand (16: none), 8 dotX, 9 dotY. -/
abbrev Ch : Type := Nat → Nat → Nat
def waysS (a : Ch) (i : Nat) : Nat := if a 1 i = 0 then 8 else 16
def turnS (a : Ch) (i w : Nat) : Bool := decide (a 1 i = 1) && decide (8 ≤ w)
def ledS (a : Ch) (i w : Nat) : Bool := decide (2 ≤ a 1 i) && decide (8 ≤ w)
def bwS (a : Ch) (i w : Nat) : Nat := if turnS a i w = true then (a 4 i + 1) / 2 else a 4 i
def bhS (a : Ch) (i w : Nat) : Nat := if turnS a i w = true then 2 * a 5 i else a 5 i
def offS (a : Ch) (i w : Nat) : Nat := if ledS a i w = true then 40 else 2
def acrS (k : Nat) : Nat := ([0, 1, 1, 0, 0, 1, 2, 2] : List Nat).getD k 2
def dwnS (k : Nat) : Nat := ([1, 1, 0, 0, 2, 2, 1, 0] : List Nat).getD k 2
/-- s: 0 behind the point, 1 ahead of it, 2 over it -/
def stS (f s len off : Nat) : Int := if s = 0 then (f : Int) + off else if s = 1 then (f : Int) - off - len else (f : Int) - ((len / 2 : Nat) : Int)
def lS (a : Ch) (i w z : Nat) : Int := stS (a 2 i * 2 ^ z) (acrS (w % 8)) (bwS a i w) (offS a i w)
def tS (a : Ch) (i w z : Nat) : Int := stS (a 3 i * 2 ^ z) (dwnS (w % 8)) (bhS a i w) (offS a i w)
/-- a name within its bounds -/
def NmS (a : Ch) (i : Nat) : Prop := a 1 i ≤ 3 ∧ a 2 i ≤ 1000 ∧ a 3 i ≤ 1000 ∧ 1 ≤ a 4 i ∧ a 4 i ≤ 300 ∧ 1 ≤ a 5 i ∧ a 5 i ≤ 80 ∧ 1 ≤ a 6 i ∧ a 6 i ≤ 1000
theorem rd_n {α ρ : Type} {n i : Nat} {f : Nat → α} {K : α → Option ρ} (h : i < n) (hn : n < 2 ^ 31) : rd n (nI i) f K = K (f i) := by
  unfold rd
  rw [if_neg (nI_in h hn), nI_clamp (by omega)]
theorem wi_n {ρ : Type} {m : Me} {o n i : Nat} {v : Int32} {K : Me → Option ρ} (h : i < n) (hn : n < 2 ^ 31) : wi m o n (nI i) v K = K (si m o i v) := by
  unfold wi
  rw [if_neg (nI_in h hn), nI_clamp (by omega)]
theorem wl_n {ρ : Type} {m : Me} {o n i : Nat} {v : Int64} {K : Me → Option ρ} (h : i < n) (hn : n < 2 ^ 31) : wl m o n (nI i) v K = K (sl m o i v) := by
  unfold wl
  rw [if_neg (nI_in h hn), nI_clamp (by omega)]
theorem si1 {m : Me} {o j a b : Nat} {v : Int32} : (si m o j v).1 a b = if a = o ∧ b = j then v else m.1 a b := rfl
theorem si2 {m : Me} {o j : Nat} {v : Int32} : (si m o j v).2 = m.2 := rfl
theorem sl1 {m : Me} {o j : Nat} {v : Int64} : (sl m o j v).1 = m.1 := rfl
theorem sl2 {m : Me} {o j a b : Nat} {v : Int64} : (sl m o j v).2 a b = if a = o ∧ b = j then v else m.2 a b := rfl
theorem si_s {m : Me} {o j : Nat} {v : Int32} : (si m o j v).1 o j = v := by simp [si]
theorem si_j {m : Me} {o j k : Nat} {v : Int32} (h : k ≠ j) : (si m o j v).1 o k = m.1 o k := by simp [si, h]
theorem si_o {m : Me} {o j a : Nat} {v : Int32} (h : a ≠ o) : (si m o j v).1 a = m.1 a := si_ne h
/-- what the box o holds, laid for the way w of the name i at the zoom z -/
def BoxAt (m : Me) (o : Nat) (a : Ch) (i w z : Nat) : Prop :=
  m.1 o 0 = iI (lS a i w z) ∧ m.1 o 1 = iI (tS a i w z) ∧ m.1 o 2 = iI (lS a i w z + bwS a i w) ∧ m.1 o 3 = iI (tS a i w z + bhS a i w) ∧
  m.1 o 4 = (if ledS a i w = true then 1 else 0) ∧ m.1 o 5 = iI (2 * ((a 2 i * 2 ^ z : Nat) : Int)) ∧ m.1 o 6 = iI (2 * ((a 3 i * 2 ^ z : Nat) : Int)) ∧
  m.1 o 7 = iI (2 * lS a i w z + bwS a i w) ∧ m.1 o 8 = iI (2 * tS a i w z + bhS a i w)
/-- what the class's chart holds of the name i -/
def NmC (m : Me) (a : Ch) (i : Nat) : Prop := m.1 11 i = nI (a 1 i) ∧ m.1 12 i = nI (a 2 i) ∧ m.1 13 i = nI (a 3 i) ∧ m.1 14 i = nI (a 4 i) ∧ m.1 15 i = nI (a 5 i)
theorem start_ok {f s len off : Nat} {k : Int32} {m : Me} (hs : (s = 0 ∧ k = 1) ∨ (s = 1 ∧ k = -1) ∨ (s = 2 ∧ k = 0)) (hl : len < 2 ^ 31) : f_Box_start (nI f) k (nI len) (nI off) m = some (iI (stS f s len off)) := by
  unfold f_Box_start stS
  rcases hs with ⟨rfl, rfl⟩ | ⟨rfl, rfl⟩ | ⟨rfl, rfl⟩
  · rw [if_neg (by decide), if_neg (by decide), if_pos rfl, nI_i, nI_i, iI_add]
  · rw [if_neg (by decide), if_pos (by decide), if_neg (by decide), if_pos rfl, nI_i, nI_i, nI_i, iI_sub, iI_sub]
  · rw [if_pos rfl, if_neg (by decide), if_neg (by decide), show (2 : Int32) = nI 2 from rfl, nI_half hl (by decide) (by decide), nI_i, nI_i, iI_sub]
theorem dir_ok {w : Nat} (hw : w < 8) : ((acrS w = 0 ∧ stt 0 w = 1) ∨ (acrS w = 1 ∧ stt 0 w = -1) ∨ (acrS w = 2 ∧ stt 0 w = 0)) ∧ ((dwnS w = 0 ∧ stt 1 w = 1) ∨ (dwnS w = 1 ∧ stt 1 w = -1) ∨ (dwnS w = 2 ∧ stt 1 w = 0)) := by
  rcases (show w = 0 ∨ w = 1 ∨ w = 2 ∨ w = 3 ∨ w = 4 ∨ w = 5 ∨ w = 6 ∨ w = 7 by omega) with rfl | rfl | rfl | rfl | rfl | rfl | rfl | rfl <;> decide
/-- the end of lay: all but the choices -/
theorem lay_tail {m : Me} {o : Nat} {a : Ch} {i w z : Nat} (l t : Int) (bw bh : Nat) (x y : Nat) (led : Int32) (h : m.1 o 4 = led) :
    ∃ m', (bd (si m o 0 (iI l)) (fun m15 => bd (si m15 o 1 (iI t)) (fun m18 => bd (si m18 o 2 (((m18.1 o 0)) + nI bw)) (fun m19 => bd (si m19 o 3 (((m19.1 o 1)) + nI bh)) (fun m20 => bd (si m20 o 5 ((2 : Int32) * nI x)) (fun m21 => bd (si m21 o 6 ((2 : Int32) * nI y)) (fun m22 => bd (si m22 o 7 (((m22.1 o 0)) + ((m22.1 o 2)))) (fun m23 => bd (si m23 o 8 (((m23.1 o 1)) + ((m23.1 o 3)))) (fun m24 => some m24)))))))) : Option Me) = some m' ∧
      m'.1 o 0 = iI l ∧ m'.1 o 1 = iI t ∧ m'.1 o 2 = iI (l + bw) ∧ m'.1 o 3 = iI (t + bh) ∧ m'.1 o 4 = led ∧ m'.1 o 5 = iI (2 * (x : Int)) ∧ m'.1 o 6 = iI (2 * (y : Int)) ∧ m'.1 o 7 = iI (2 * l + bw) ∧ m'.1 o 8 = iI (2 * t + bh) ∧ (∀ o', o' ≠ o → m'.1 o' = m.1 o') ∧ m'.2 = m.2 := by
  unfold bd
  refine ⟨_, rfl, ?_⟩
  have e1 : iI l + nI bw = iI (l + bw) := by rw [nI_i, iI_add]
  have e2 : iI t + nI bh = iI (t + bh) := by rw [nI_i, iI_add]
  have e3 : iI l + iI (l + bw) = iI (2 * l + bw) := by rw [iI_add]; congr 1; omega
  have e4 : iI t + iI (t + bh) = iI (2 * t + bh) := by rw [iI_add]; congr 1; omega
  have e5 : ∀ x : Nat, (2 : Int32) * nI x = iI (2 * (x : Int)) := fun x => by rw [nI_i, ← iI_mul]; rfl
  refine ⟨?_, ?_, ?_, ?_, ?_, ?_, ?_, ?_, ?_, ?_, rfl⟩
  · simp [si1]
  · simp [si1]
  · simp [si1, e1]
  · simp [si1, e2]
  · simp [si1, h]
  · simp [si1, e5]
  · simp [si1, e5]
  · simp [si1, e1, e3]
  · simp [si1, e2, e4]
  · intro o' ho
    simp only [si_o ho]
set_option maxHeartbeats 1000000 in
theorem lay_ok {m : Me} {o : Nat} {a : Ch} {i w z : Nat} (ho : 1000 ≤ o) (hi : i < 24) (hw : w < 16) (hz : z < 7) (hN : NmS a i) (hC : NmC m a i) (hk : 8 ≤ w → a 1 i ≠ 0) :
    ∃ m', f_Box_lay o (nI i) (nI w) (nI z) m = some m' ∧ BoxAt m' o a i w z ∧ (∀ o', o' ≠ o → m'.1 o' = m.1 o') ∧ m'.2 = m.2 := by
  obtain ⟨c1, c2, c3, c4, c5⟩ := hC
  obtain ⟨n1, n2, n3, n4, n5, n6, n7, -⟩ := hN
  have r : ∀ (k : Nat) (f : Nat → Int32) (K : Int32 → Option Me), ln k = 24 → rd (ln k) (nI i) f K = K (f i) := fun k f K hk => by rw [hk]; exact rd_n hi (by decide)
  have r11 := fun f K => r 11 f K rfl
  have r12 := fun f K => r 12 f K rfl
  have r13 := fun f K => r 13 f K rfl
  have r14 := fun f K => r 14 f K rfl
  have r15 := fun f K => r 15 f K rfl
  have ne : ∀ k, k < 1000 → k ≠ o := fun k hk => by omega
  have o11 : ∀ v k, k < 1000 → (si m o 4 v).1 k i = m.1 k i := fun v k hk => by rw [si_o (ne k hk)]
  have s12 : nI (a 2 i) <<< (nI z &&& 31) = nI (a 2 i * 2 ^ z) := nI_shl hz (by omega)
  have s13 : nI (a 3 i) <<< (nI z &&& 31) = nI (a 3 i * 2 ^ z) := nI_shl hz (by omega)
  by_cases hw8 : w < 8
  · have f8 : nI w < (8 : Int32) := nI_lt (b := 8) hw8 (by decide)
    have tn : turnS a i w = false := by unfold turnS; simp; omega
    have ld : ledS a i w = false := by unfold ledS; simp; omega
    have hbw : bwS a i w = a 4 i := by unfold bwS; rw [tn]; rfl
    have hbh : bhS a i w = a 5 i := by unfold bhS; rw [tn]; rfl
    have hof : offS a i w = 2 := by unfold offS; rw [ld]; rfl
    have hm : w % 8 = w := Nat.mod_eq_of_lt hw8
    obtain ⟨d1, d2⟩ := dir_ok hw8
    unfold f_Box_lay
    simp only [bd, f8, if_true, pz, true_or, r11, r12, r13, r14, r15, o11 _ 12 (by decide), o11 _ 13 (by decide), o11 _ 14 (by decide), o11 _ 15 (by decide), c2, c3, c4, c5, s12, s13, si_s]
    rw [show stl 0 = 8 from rfl, show stl 1 = 8 from rfl]
    simp only [rd_n hw8 (show 8 < 2 ^ 31 by decide)]
    rw [show (2 : Int32) = nI 2 from rfl, start_ok (s := acrS w) d1 (by omega)]
    simp only [cP]
    rw [start_ok (s := dwnS w) d2 (by omega)]
    simp only []
    obtain ⟨m', e, h0, h1, h2, h3, h4, h5, h6, h7, h8, h9, h10⟩ := lay_tail (m := si m o 4 0) (o := o) (a := a) (i := i) (w := w) (z := z) (stS (a 2 i * 2 ^ z) (acrS w) (a 4 i) 2) (stS (a 3 i * 2 ^ z) (dwnS w) (a 5 i) 2) (a 4 i) (a 5 i) (a 2 i * 2 ^ z) (a 3 i * 2 ^ z) 0 si_s
    simp only [bd] at e
    refine ⟨m', e, ?_, fun o' ho' => (h9 o' ho').trans (si_o ho'), h10⟩
    unfold BoxAt lS tS
    rw [hbw, hbh, hof, hm, ld]
    exact ⟨h0, h1, h2, h3, h4, h5, h6, h7, h8⟩
  · obtain ⟨v, rfl⟩ : ∃ v, w = v + 8 := ⟨w - 8, by omega⟩
    have hv : v < 8 := by omega
    have f8 : ¬ nI (v + 8) < (8 : Int32) := nI_nlt (b := 8) (by omega) (by omega)
    have sub8 : nI (v + 8) - (8 : Int32) = nI v := by
      have := pk_sub (a := v + 8) (b := 8) (by omega)
      rw [Nat.add_sub_cancel] at this
      exact this
    have hm : (v + 8) % 8 = v := by omega
    obtain ⟨d1, d2⟩ := dir_ok hv
    have k0 := hk (by omega)
    by_cases k1 : a 1 i = 1
    · have tn : turnS a i (v + 8) = true := by unfold turnS; simp [k1]
      have ld : ledS a i (v + 8) = false := by unfold ledS; simp; omega
      have hbw : bwS a i (v + 8) = (a 4 i + 1) / 2 := by unfold bwS; rw [tn]; rfl
      have hbh : bhS a i (v + 8) = 2 * a 5 i := by unfold bhS; rw [tn]; rfl
      have hof : offS a i (v + 8) = 2 := by unfold offS; rw [ld]; rfl
      have w1 : (nI (a 4 i) + 1) / (2 : Int32) = nI ((a 4 i + 1) / 2) := by
        rw [nI_1]
        exact nI_half (d := 2) (by omega) (by decide) (by decide)
      have h1' : (2 : Int32) * nI (a 5 i) = nI (2 * a 5 i) := pk_mul 2 (a 5 i)
      rw [k1] at c1
      have c1' : m.1 11 i = (1 : Int32) := c1
      have z10 : ¬ (1 : Int32) = 0 := by decide
      unfold f_Box_lay
      simp only [bd, f8, if_false, if_true, pz, true_or, or_true, r11, r12, r13, r14, r15, o11 _ 12 (by decide), o11 _ 13 (by decide), o11 _ 14 (by decide), o11 _ 15 (by decide), c1', c2, c3, c4, c5, s12, s13, si_s, z10, sub8, w1, h1']
      rw [show stl 0 = 8 from rfl, show stl 1 = 8 from rfl]
      simp only [rd_n hv (show 8 < 2 ^ 31 by decide)]
      rw [show (2 : Int32) = nI 2 from rfl, start_ok (s := acrS v) d1 (by omega)]
      simp only [cP]
      rw [start_ok (s := dwnS v) d2 (by omega)]
      simp only []
      obtain ⟨m', e, h0, h1, h2, h3, h4, h5, h6, h7, h8, h9, h10⟩ := lay_tail (m := si m o 4 0) (o := o) (a := a) (i := i) (w := v) (z := z) (stS (a 2 i * 2 ^ z) (acrS v) ((a 4 i + 1) / 2) 2) (stS (a 3 i * 2 ^ z) (dwnS v) (2 * a 5 i) 2) ((a 4 i + 1) / 2) (2 * a 5 i) (a 2 i * 2 ^ z) (a 3 i * 2 ^ z) 0 si_s
      simp only [bd] at e
      refine ⟨m', e, ?_, fun o' ho' => (h9 o' ho').trans (si_o ho'), h10⟩
      unfold BoxAt lS tS
      rw [hbw, hbh, hof, hm, ld]
      exact ⟨h0, h1, h2, h3, h4, h5, h6, h7, h8⟩
    · have tn : turnS a i (v + 8) = false := by unfold turnS; simp [k1]
      have ld : ledS a i (v + 8) = true := by unfold ledS; simp; omega
      have hbw : bwS a i (v + 8) = a 4 i := by unfold bwS; rw [tn]; rfl
      have hbh : bhS a i (v + 8) = a 5 i := by unfold bhS; rw [tn]; rfl
      have hof : offS a i (v + 8) = 40 := by unfold offS; rw [ld]; rfl
      have c1' : ¬ m.1 11 i = (1 : Int32) := by
        rw [c1]
        exact fun q => k1 ((nI_eq (a := a 1 i) (b := 1) (by omega) (by decide)).mp q)
      have z10 : ¬ (1 : Int32) = 0 := by decide
      unfold f_Box_lay
      simp only [bd, f8, if_false, if_true, pz, true_or, or_true, r11, r12, r13, r14, r15, o11 _ 12 (by decide), o11 _ 13 (by decide), o11 _ 14 (by decide), o11 _ 15 (by decide), c1', c2, c3, c4, c5, s12, s13, si_s, z10, sub8]
      rw [show stl 0 = 8 from rfl, show stl 1 = 8 from rfl]
      simp only [rd_n hv (show 8 < 2 ^ 31 by decide)]
      rw [show (40 : Int32) = nI 40 from rfl, start_ok (s := acrS v) d1 (by omega)]
      simp only [cP]
      rw [start_ok (s := dwnS v) d2 (by omega)]
      simp only []
      obtain ⟨m', e, h0, h1, h2, h3, h4, h5, h6, h7, h8, h9, h10⟩ := lay_tail (m := si m o 4 1) (o := o) (a := a) (i := i) (w := v) (z := z) (stS (a 2 i * 2 ^ z) (acrS v) (a 4 i) 40) (stS (a 3 i * 2 ^ z) (dwnS v) (a 5 i) 40) (a 4 i) (a 5 i) (a 2 i * 2 ^ z) (a 3 i * 2 ^ z) 1 si_s
      simp only [bd] at e
      refine ⟨m', e, ?_, fun o' ho' => (h9 o' ho').trans (si_o ho'), h10⟩
      unfold BoxAt lS tS
      rw [hbw, hbh, hof, hm, ld]
      exact ⟨h0, h1, h2, h3, h4, h5, h6, h7, h8⟩
