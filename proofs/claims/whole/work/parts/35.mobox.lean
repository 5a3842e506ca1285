/-! PURE PART: the reference's box -/
def NmM (m : Me) (a : Ch) (i : Nat) : Prop := m.1 201 i = nI (a 1 i) ∧ m.1 202 i = nI (a 2 i) ∧ m.1 203 i = nI (a 3 i) ∧ m.1 204 i = nI (a 4 i) ∧ m.1 205 i = nI (a 5 i)
def mbox (m : Me) (l t : Int) (w h : Nat) : Me := si (si (si (si m 200 16 (iI l)) 200 17 (iI t)) 200 18 (nI w)) 200 19 (nI h)
theorem moLed_ok {m : Me} {a : Ch} {i w : Nat} (hi : i < 24) (hw : w < 16) (hN : NmS a i) (hM : m.1 201 i = nI (a 1 i)) : f_Mo_isLed (nI i) (nI w) m = some (if ledS a i w = true then 1 else 0) := by
  obtain ⟨n1, -⟩ := hN
  unfold f_Mo_isLed
  rw [show ln 201 = 24 from rfl, rd_n hi (by decide), hM]
  unfold ledS
  by_cases h : a 1 i < 2
  · have f : nI (a 1 i) < (2 : Int32) := nI_lt (b := 2) h (by decide)
    rw [if_pos f, if_neg (by simp; omega)]
  · have f : ¬ nI (a 1 i) < (2 : Int32) := nI_nlt (b := 2) (by omega) (by omega)
    rw [if_neg f]
    by_cases h2 : w < 8
    · have g : nI w < (8 : Int32) := nI_lt (b := 8) h2 (by decide)
      rw [if_pos g, if_neg (by simp; omega)]
    · have g : ¬ nI w < (8 : Int32) := nI_nlt (b := 8) (by omega) (by omega)
      rw [if_neg g, if_pos (by simp; omega)]
/-- the choices by direction -/
theorem mo_tail {m : Me} {x y bw bh off k : Nat} {v10 : Int32} (hv : v10 = nI off) (hk : k < 8) (hbw : bw < 2 ^ 31) (hbh : bh < 2 ^ 31) :
    (bd (fun (v12 : Int32) => bd (fun (v13 : Int32) => bd (fun (v14 : Int32) => bd (fun (v15 : Int32) => bd (fun (v16 : Int32) => bd (si m 200 16 v16) (fun m17 => bd (fun (v18 : Int32) => bd (si m17 200 17 v18) (fun m19 => bd (si m19 200 18 (nI bw)) (fun m20 => bd (si m20 200 19 (nI bh)) (fun m21 => some m21)))) (fun k282_ => if v15 = 0 then if v14 = 0 then (k282_ ((nI y + v10))) else (k282_ ((((nI y - v10)) - nI bh))) else (k282_ ((nI y - ((nI bh / (2 : Int32))))))))) (fun k242_ => if v13 = 0 then if v12 = 0 then (k242_ ((((nI x - v10)) - nI bw))) else (k242_ ((nI x + v10))) else (k242_ ((nI x - ((nI bw / (2 : Int32)))))))) (fun k203_ => bd ((k203_ (1 : Int32))) (fun k198_ => if nI k = (4 : Int32) then (k198_) else if nI k = (5 : Int32) then (k198_) else (k203_ (0 : Int32))))) (fun k184_ => bd ((k184_ (1 : Int32))) (fun k179_ => if nI k = 0 then (k179_) else if nI k = (1 : Int32) then (k179_) else if nI k = (6 : Int32) then (k179_) else (k184_ (0 : Int32))))) (fun k159_ => bd ((k159_ (1 : Int32))) (fun k154_ => if nI k = (6 : Int32) then (k154_) else if nI k = (7 : Int32) then (k154_) else (k159_ (0 : Int32))))) (fun k138_ => bd ((k138_ (1 : Int32))) (fun k133_ => if nI k = 0 then (k133_) else if nI k = (3 : Int32) then (k133_) else if nI k = (4 : Int32) then (k133_) else (k138_ (0 : Int32)))) : Option Me) =
    some (mbox m (stS x (acrS k) bw off) (stS y (dwnS k) bh off) bw bh) := by
  subst hv
  have e1 : nI x - nI off - nI bw = iI (stS x 1 bw off) := by simp only [nI_i, iI_sub]; rfl
  have e2 : nI x + nI off = iI (stS x 0 bw off) := by simp only [nI_i, iI_add]; rfl
  have e3 : nI x - nI bw / (2 : Int32) = iI (stS x 2 bw off) := by
    rw [show (2 : Int32) = nI 2 from rfl, nI_half hbw (by decide) (by decide)]; simp only [nI_i, iI_sub]; rfl
  have e4 : nI y - nI off - nI bh = iI (stS y 1 bh off) := by simp only [nI_i, iI_sub]; rfl
  have e5 : nI y + nI off = iI (stS y 0 bh off) := by simp only [nI_i, iI_add]; rfl
  have e6 : nI y - nI bh / (2 : Int32) = iI (stS y 2 bh off) := by
    rw [show (2 : Int32) = nI 2 from rfl, nI_half hbh (by decide) (by decide)]; simp only [nI_i, iI_sub]; rfl
  simp only [bd, e1, e2, e3, e4, e5, e6]
  rcases (show k = 0 ∨ k = 1 ∨ k = 2 ∨ k = 3 ∨ k = 4 ∨ k = 5 ∨ k = 6 ∨ k = 7 by omega) with rfl | rfl | rfl | rfl | rfl | rfl | rfl | rfl <;> rfl
set_option maxHeartbeats 1000000 in
theorem mobox_ok {m : Me} {a : Ch} {i w z : Nat} (hi : i < 24) (hw : w < 16) (hz : z < 7) (hN : NmS a i) (hM : NmM m a i) :
    f_Mo_box (nI i) (nI w) (nI z) m = some (mbox m (lS a i w z) (tS a i w z) (bwS a i w) (bhS a i w)) := by
  obtain ⟨c1, c2, c3, c4, c5⟩ := hM
  have hN' := hN
  obtain ⟨n1, n2, n3, n4, n5, n6, n7, -⟩ := hN
  have r : ∀ (k : Nat) (f : Nat → Int32) (K : Int32 → Option Me), ln k = 24 → rd (ln k) (nI i) f K = K (f i) := fun k f K hk => by rw [hk]; exact rd_n hi (by decide)
  have r1 := fun f K => r 201 f K rfl
  have r2 := fun f K => r 202 f K rfl
  have r3 := fun f K => r 203 f K rfl
  have r4 := fun f K => r 204 f K rfl
  have r5 := fun f K => r 205 f K rfl
  have s12 : nI (a 2 i) <<< (nI z &&& 31) = nI (a 2 i * 2 ^ z) := nI_shl hz (by omega)
  have s13 : nI (a 3 i) <<< (nI z &&& 31) = nI (a 3 i * 2 ^ z) := nI_shl hz (by omega)
  have hrem : nI w - nI w / (8 : Int32) * (8 : Int32) = nI (w % 8) := pk_rem (a := w) (d := 8) (by omega) (by decide) (by decide)
  have hled := moLed_ok (m := m) hi hw hN' c1
  have w1 : (nI (a 4 i) + 1) / (2 : Int32) = nI ((a 4 i + 1) / 2) := by
    rw [nI_1]
    exact nI_half (d := 2) (by omega) (by decide) (by decide)
  have h1' : (2 : Int32) * nI (a 5 i) = nI (2 * a 5 i) := pk_mul 2 (a 5 i)
  unfold lS tS f_Mo_box
  have z10 : ¬ (1 : Int32) = 0 := by decide
  have hk8 : w % 8 < 8 := by omega
  by_cases k1 : a 1 i = 1
  · have c1' : m.1 201 i = (1 : Int32) := by rw [c1, k1]; rfl
    have ld : ledS a i w = false := by unfold ledS; simp; omega
    have hof : offS a i w = 2 := by unfold offS; rw [ld]; rfl
    rw [ld] at hled
    by_cases w8 : w < 8
    · have f8 : nI w < (8 : Int32) := nI_lt (b := 8) w8 (by decide)
      have tn : turnS a i w = false := by unfold turnS; simp; omega
      have hbw : bwS a i w = a 4 i := by unfold bwS; rw [tn]; rfl
      have hbh : bhS a i w = a 5 i := by unfold bhS; rw [tn]; rfl
      rw [hbw, hbh, hof]
      have key := mo_tail (m := m) (x := a 2 i * 2 ^ z) (y := a 3 i * 2 ^ z) (bw := a 4 i) (bh := a 5 i) (off := 2) (v10 := 2) rfl hk8 (by omega) (by omega)
      simp only [bd, r1, r2, r3, r4, r5, c1', c2, c3, c4, c5, s12, s13, f8, if_true, if_false, z10, hled, cP, hrem] at key ⊢
      exact key
    · have f8 : ¬ nI w < (8 : Int32) := nI_nlt (b := 8) (by omega) (by omega)
      have tn : turnS a i w = true := by unfold turnS; simp; omega
      have hbw : bwS a i w = (a 4 i + 1) / 2 := by unfold bwS; rw [tn]; rfl
      have hbh : bhS a i w = 2 * a 5 i := by unfold bhS; rw [tn]; rfl
      rw [hbw, hbh, hof]
      have key := mo_tail (m := m) (x := a 2 i * 2 ^ z) (y := a 3 i * 2 ^ z) (bw := (a 4 i + 1) / 2) (bh := 2 * a 5 i) (off := 2) (v10 := 2) rfl hk8 (by omega) (by omega)
      simp only [bd, r1, r2, r3, r4, r5, c1', c2, c3, c4, c5, s12, s13, f8, if_true, if_false, z10, hled, cP, hrem, w1, h1'] at key ⊢
      exact key
  · have c1' : ¬ m.1 201 i = (1 : Int32) := by
      rw [c1]
      exact fun q => k1 ((nI_eq (a := a 1 i) (b := 1) (by omega) (by decide)).mp q)
    have tn : turnS a i w = false := by unfold turnS; simp; omega
    have hbw : bwS a i w = a 4 i := by unfold bwS; rw [tn]; rfl
    have hbh : bhS a i w = a 5 i := by unfold bhS; rw [tn]; rfl
    cases ld : ledS a i w with
    | false =>
      have hof : offS a i w = 2 := by unfold offS; rw [ld]; rfl
      rw [ld] at hled
      rw [hbw, hbh, hof]
      have key := mo_tail (m := m) (x := a 2 i * 2 ^ z) (y := a 3 i * 2 ^ z) (bw := a 4 i) (bh := a 5 i) (off := 2) (v10 := 2) rfl hk8 (by omega) (by omega)
      simp only [bd, r1, r2, r3, r4, r5, c1', c2, c3, c4, c5, s12, s13, if_true, if_false, z10, hled, cP, hrem] at key ⊢
      exact key
    | true =>
      have hof : offS a i w = 40 := by unfold offS; rw [ld]; rfl
      rw [ld] at hled
      rw [hbw, hbh, hof]
      have key := mo_tail (m := m) (x := a 2 i * 2 ^ z) (y := a 3 i * 2 ^ z) (bw := a 4 i) (bh := a 5 i) (off := 40) (v10 := 40) rfl hk8 (by omega) (by omega)
      simp only [bd, r1, r2, r3, r4, r5, c1', c2, c3, c4, c5, s12, s13, if_true, if_false, z10, hled, cP, hrem] at key ⊢
      exact key
