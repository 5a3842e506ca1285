/-! PURE PART: the calls that change -/
def SCl (o : Nat) (_ : Nat) : Prop := o < 200 ∨ 1000 ≤ o
def SMo (o : Nat) (_ : Nat) : Prop := 200 ≤ o ∧ o < 1000
def PairI (A : Option (Int32 × Me)) (B : Me → Option (Int32 × Me)) : Prop := ∃ r m1 m2, A = some (r, m1) ∧ B m1 = some (r, m2) ∧ Inv m2
theorem chg {m1 m2 : Me} {n d : Nat} {a : Ch} {e h : Nat} {H : Hs} (hV : VV n d a) (hC : CC m1 10 n d a) (hc : HC m1 e h H) (hv : HV e h H) (l : LY m1 n d a) (p : PT m1 n d a) (q : PL m1 n d a) (f : Fm SMo m1 m2) (hM : MM m2 n d a) (hm : HM m2 e h H) : Inv m2 := by
  refine ⟨n, d, a, e, h, H, hV, hC.fr f ?_, hM, hv, hc.fr f ?_, hm, l.fr hV f ?_ ?_, p.fr f ?_, q.fr f ?_⟩
  · intro o j _ _; unfold SMo; omega
  · intro o j _; unfold SMo; omega
  · unfold SMo; omega
  · intro o j _; unfold SMo; omega
  · intro o j _; unfold SMo; omega
  · intro o j _; unfold SMo; omega
def SRd (o j : Nat) : Prop := o = 1 ∨ (20 ≤ o ∧ o < 100) ∨ (o = 3 ∧ j = 2) ∨ (o = 6 ∧ j = 4) ∨ (o = 105 ∧ j = 5)
theorem forget_q {m : Me} : ∃ m', f_NC_forgetDrawing m = some m' ∧ m'.1 3 2 = 0 ∧ m'.1 6 4 = 0 ∧ m'.1 105 5 = 0 ∧ Fm (fun o j => (o = 3 ∧ j = 2) ∨ (o = 6 ∧ j = 4) ∨ (o = 105 ∧ j = 5)) m m' := by
  unfold f_NC_forgetDrawing pz
  simp only [true_or, if_true]
  refine ⟨_, rfl, ?_, ?_, ?_, ?_⟩
  · rw [si1, if_neg (by omega), si1, if_neg (by omega), si_s]
  · rw [si1, if_neg (by omega), si_s]
  · rw [si_s]
  · exact ((Fm.wr (by omega)).wr' (by omega)).wr' (by omega)
theorem redraw_q {m : Me} {n d : Nat} {a : Ch} {e h : Nat} {H : Hs} (i : Iv m n d a e h H) : ∃ m', f_NC_redraw m = some m' ∧ CC m' 10 n d a ∧ HC m' ((e + 1) % 8) (mn8 h) (hup H e n d a) ∧ m'.1 3 2 = 0 ∧ m'.1 6 4 = 0 ∧ m'.1 105 5 = 0 ∧ Fm SRd m m' := by
  obtain ⟨i1, i2, i3, i4, i5, i6, i7, i8, i9⟩ := i
  obtain ⟨m1, e1, hc1, c1, f1⟩ := keepC i1 i2 i4 i5
  obtain ⟨m2, e2, z1, z2, z3, f2⟩ := forget_q (m := m1)
  unfold f_NC_redraw
  rw [e1]
  simp only [cP]
  rw [e2]
  refine ⟨m2, rfl, c1.fr f2 ?_, hc1.fr f2 ?_, z1, z2, z3, (f1.mo ?_).tr (f2.mo ?_)⟩
  · intro o j _ _; omega
  · intro o j _; omega
  · intro o j w; unfold SKC at w; unfold SRd; omega
  · intro o j w; unfold SRd; omega
theorem mkeep_q {m1 : Me} {n d : Nat} {a : Ch} {e h : Nat} {H : Hs} (hV : VV n d a) (hM : MM m1 n d a) (hv : HV e h H) (hm : HM m1 e h H) : ∃ m', f_Mo_keep (si m1 200 0 0) = some m' ∧ HM m' ((e + 1) % 8) (mn8 h) (hup H e n d a) ∧ MM m' n d a ∧ Fm SMo m1 m' := by
  have f0 : Fm (fun o j => o = 200 ∧ j = 0) m1 (si m1 200 0 0) := Fm.wr ⟨rfl, rfl⟩
  obtain ⟨m', e1, h1, h2, f1⟩ := keepM hV (hM.fr f0 (by omega) (by omega) (fun o j _ _ => by omega)) hv (hm.fr hv f0 (by omega) (by omega) (fun j => by omega))
  refine ⟨m', e1, h1, h2, (f0.mo ?_).tr (f1.mo ?_)⟩
  · intro o j w; unfold SMo; omega
  · intro o j w; unfold SKM at w; unfold SMo; omega
/-! one name's row -/
def upA (a : Ch) (i : Nat) (f : Nat → Nat) : Ch := fun k j => if j = i ∧ k ≤ 7 then f k else a k j
theorem upA_s {a : Ch} {i k : Nat} {f : Nat → Nat} (h : k ≤ 7) : upA a i f k i = f k := by unfold upA; rw [if_pos ⟨rfl, h⟩]
theorem upA_n {a : Ch} {i k j : Nat} {f : Nat → Nat} (h : j ≠ i ∨ 7 < k) : upA a i f k j = a k j := by unfold upA; rw [if_neg (by omega)]
def OkR (f : Nat → Nat) : Prop := f 1 ≤ 3 ∧ f 2 ≤ 1000 ∧ f 3 ≤ 1000 ∧ 1 ≤ f 4 ∧ f 4 ≤ 300 ∧ 1 ≤ f 5 ∧ f 5 ≤ 80 ∧ 1 ≤ f 6 ∧ f 6 ≤ 1000 ∧ (f 7 = 16 ∨ f 7 < (if f 1 = 0 then 8 else 16))
theorem ok_of {n d : Nat} {a : Ch} {i : Nat} (hV : VV n d a) (hi : i < n) : OkR (fun k => a k i) := by
  obtain ⟨⟨h1, h2, h3, h4, h5, h6, h7, h8, h9⟩, h10⟩ := hV.2.2.1 i hi
  exact ⟨h1, h2, h3, h4, h5, h6, h7, h8, h9, h10⟩
theorem VV.upd {n d n' : Nat} {a : Ch} {i : Nat} {f : Nat → Nat} (hV : VV n d a) (hf : OkR f) (hi : (i < n ∧ n' = n) ∨ (i = n ∧ n' = n + 1 ∧ n < 24)) : VV n' d (upA a i f) := by
  obtain ⟨v1, v2, v3, v4⟩ := hV
  obtain ⟨h1, h2, h3, h4, h5, h6, h7, h8, h9, h10⟩ := hf
  refine ⟨by omega, v2, ?_, ?_⟩
  · intro j hj
    by_cases q : j = i
    · subst q
      unfold NmS waysS
      rw [upA_s (by omega), upA_s (by omega), upA_s (by omega), upA_s (by omega), upA_s (by omega), upA_s (by omega), upA_s (by omega)]
      exact ⟨⟨h1, h2, h3, h4, h5, h6, h7, h8, h9⟩, h10⟩
    · have := v3 j (by omega)
      unfold NmS waysS at *
      rw [upA_n (Or.inl q), upA_n (Or.inl q), upA_n (Or.inl q), upA_n (Or.inl q), upA_n (Or.inl q), upA_n (Or.inl q), upA_n (Or.inl q)]
      exact this
  · intro j hj
    rw [upA_n (Or.inr (by omega)), upA_n (Or.inr (by omega))]
    exact v4 j hj
theorem CC.upd {m m' : Me} {n d n' : Nat} {a : Ch} {i : Nat} {f : Nat → Nat} (hC : CC m 10 n d a) (hi : (i < n ∧ n' = n) ∨ (i = n ∧ n' = n + 1)) (h0 : m'.1 10 0 = nI n') (hr : ∀ k, 1 ≤ k → k ≤ 6 → m'.1 (10 + k) i = nI (f k)) (h7 : m'.1 17 i = hI (f 7)) (fr : ∀ o j, 10 ≤ o → o ≤ 19 → (j ≠ i ∨ 17 < o) → (o ≠ 10 ∨ j = 1) → m'.1 o j = m.1 o j) (h1 : m'.1 10 1 = m.1 10 1) : CC m' 10 n' d (upA a i f) := by
  obtain ⟨c1, c2, c3, c4, c5⟩ := hC
  refine ⟨h0, h1.trans c2, ?_, ?_, ?_⟩
  · intro k j k1 k2 hj
    by_cases q : j = i
    · subst q
      rw [upA_s (by omega)]; exact hr k k1 k2
    · rw [upA_n (Or.inl q), fr _ _ (by omega) (by omega) (Or.inl q) (by omega)]
      exact c3 k j k1 k2 (by omega)
  · intro j hj
    by_cases q : j = i
    · subst q
      rw [upA_s (by omega)]; exact h7
    · rw [upA_n (Or.inl q), fr _ _ (by omega) (by omega) (Or.inl q) (by omega)]
      exact c4 j (by omega)
  · intro j hj
    rw [upA_n (Or.inr (by omega)), upA_n (Or.inr (by omega)), fr _ _ (by omega) (by omega) (by omega) (by omega), fr _ _ (by omega) (by omega) (by omega) (by omega)]
    exact c5 j hj
theorem MM.upd {m m' : Me} {n d n' : Nat} {a : Ch} {i : Nat} {f : Nat → Nat} (hM : MM m n d a) (hi : (i < n ∧ n' = n) ∨ (i = n ∧ n' = n + 1)) (h0 : m'.1 200 1 = nI n') (hr : ∀ k, 1 ≤ k → k ≤ 7 → m'.1 (200 + k) i = nI (f k)) (fr : ∀ o j, 201 ≤ o → o ≤ 209 → (j ≠ i ∨ 207 < o) → m'.1 o j = m.1 o j) (h1 : m'.1 200 2 = m.1 200 2) : MM m' n' d (upA a i f) := by
  obtain ⟨c1, c2, c3, c5⟩ := hM
  refine ⟨h0, h1.trans c2, ?_, ?_⟩
  · intro k j k1 k2 hj
    by_cases q : j = i
    · subst q
      rw [upA_s (by omega)]; exact hr k k1 k2
    · rw [upA_n (Or.inl q), fr _ _ (by omega) (by omega) (Or.inl q)]
      exact c3 k j k1 k2 (by omega)
  · intro j hj
    rw [upA_n (Or.inr (by omega)), upA_n (Or.inr (by omega)), fr _ _ (by omega) (by omega) (by omega), fr _ _ (by omega) (by omega) (by omega)]
    exact c5 j hj
theorem all6 {P : Nat → Prop} (h1 : P 1) (h2 : P 2) (h3 : P 3) (h4 : P 4) (h5 : P 5) (h6 : P 6) : ∀ k, 1 ≤ k → k ≤ 6 → P k := by
  intro k k1 k2
  rcases (show k = 1 ∨ k = 2 ∨ k = 3 ∨ k = 4 ∨ k = 5 ∨ k = 6 by omega) with rfl | rfl | rfl | rfl | rfl | rfl <;> assumption
theorem all7 {P : Nat → Prop} (h1 : P 1) (h2 : P 2) (h3 : P 3) (h4 : P 4) (h5 : P 5) (h6 : P 6) (h7 : P 7) : ∀ k, 1 ≤ k → k ≤ 7 → P k := by
  intro k k1 k2
  rcases (show k = 1 ∨ k = 2 ∨ k = 3 ∨ k = 4 ∨ k = 5 ∨ k = 6 ∨ k = 7 by omega) with rfl | rfl | rfl | rfl | rfl | rfl | rfl <;> assumption
def newF (k x y : Nat) : Nat → Nat := fun r => if r = 1 then k else if r = 2 then x else if r = 3 then y else if r = 4 then 20 else if r = 5 then 8 else if r = 6 then 100 else 16
def S217 (o j i : Nat) : Prop := 11 ≤ o ∧ o ≤ 17 ∧ j = i
set_option maxHeartbeats 1000000 in
theorem c_name {m : Me} (hI : Inv m) (x0 y0 z0 : Int32) : PairI (f_NC_name x0 y0 z0 m) (f_Mo_name x0 y0 z0) := by
  obtain ⟨n, d, a, e, h, H, i⟩ := hI
  obtain ⟨i1, i2, i3, i4, i5, i6, i7, i8, i9⟩ := id i
  obtain ⟨x, hx, rfl⟩ := arg x0
  obtain ⟨y, hy, rfl⟩ := arg y0
  obtain ⟨z, hz, rfl⟩ := arg z0
  have n24 := i1.1
  have mk : ∀ m', f_Mo_in (iI x) 0 3 m' = some (bI (decide (0 ≤ x ∧ x ≤ 3))) := fun m' => in_eq (lo := 0) (hi := 3) hx (by unfold Rng; omega) (by unfold Rng; omega)
  unfold f_NC_name f_Mo_name
  simp only [bd]
  rw [kind_eq hx]
  simp only [cP, bI_z, mk]
  cases hk : decide (0 ≤ x ∧ x ≤ 3) with
  | false =>
    rw [if_pos rfl]
    exact ⟨-3, m, si m 200 0 0, rfl, by simp only [if_true], _, _, _, _, _, _, i.m0⟩
  | true =>
    rw [if_neg (by decide), place_eq hy hz]
    simp only [bI_z, moPlace_eq hy hz]
    cases hp : plB y z with
    | false =>
      rw [if_pos rfl]
      exact ⟨-3, m, si m 200 0 0, rfl, rfl, _, _, _, _, _, _, i.m0⟩
    | true =>
      obtain ⟨k, -, k3, rfl⟩ := in_get (lo := 0) (hi := 3) hk
      obtain ⟨X, Y, hX, hY, rfl, rfl⟩ := pl_get hp
      rw [if_neg (by decide), i2.1]
      simp only [← nI_i]
      have q0 : ∀ m', (si m' 200 0 0).1 200 1 = m'.1 200 1 := fun m' => by rw [si1, if_neg (by omega)]
      by_cases c : n < 24
      · rw [if_pos (show nI n < (24 : Int32) from nI_lt (b := 24) c (by decide))]
        obtain ⟨m3, e3, C3, hc3, z1, z2, z3, f3⟩ := redraw_q i
        rw [e3]
        simp only []
        unfold f_Chart_addName
        rw [C3.1]
        simp only [show ln 11 = 24 from rfl, show ln 12 = 24 from rfl, show ln 13 = 24 from rfl, show ln 14 = 24 from rfl, show ln 15 = 24 from rfl, show ln 16 = 24 from rfl, show ln 17 = 24 from rfl, wi_n c (show 24 < 2 ^ 31 by decide), si1, C3.1, show (10 = 11) = False by simp, show (10 = 12) = False by simp, show (10 = 13) = False by simp, show (10 = 14) = False by simp, show (10 = 15) = False by simp, show (10 = 16) = False by simp, show (10 = 17) = False by simp, false_and, if_false, bd, cI]
        rw [show nI n + (1 : Int32) = nI (n + 1) from nI_1 _]
        generalize hm4 : si (si (si (si (si (si (si (si m3 11 n (nI k)) 12 n (nI X)) 13 n (nI Y)) 14 n 20) 15 n 8) 16 n 100) 17 n (-1)) 10 0 (nI (n + 1)) = m4
        have f4 : Fm (fun o j => (11 ≤ o ∧ o ≤ 17 ∧ j = n) ∨ (o = 10 ∧ j = 0)) m3 m4 := by
          rw [← hm4]
          exact (((((((Fm.wr (by omega)).wr' (by omega)).wr' (by omega)).wr' (by omega)).wr' (by omega)).wr' (by omega)).wr' (by omega)).wr' (by omega)
        have C4 : CC m4 10 (n + 1) d (upA a n (newF k X Y)) := by
          refine C3.upd (Or.inr ⟨rfl, rfl⟩) ?_ (all6 ?_ ?_ ?_ ?_ ?_ ?_) ?_ ?_ ?_
          · rw [← hm4, si_s]
          · rw [← hm4]; simp [si1]; rfl
          · rw [← hm4]; simp [si1]; rfl
          · rw [← hm4]; simp [si1]; rfl
          · rw [← hm4]; simp [si1]; rfl
          · rw [← hm4]; simp [si1]; rfl
          · rw [← hm4]; simp [si1]; rfl
          · rw [← hm4]; simp [si1]; rfl
          · intro o j _ _ w1 w2
            exact f4 o j (by omega)
          · exact f4 _ _ (by omega)
        have V4 : VV (n + 1) d (upA a n (newF k X Y)) := i1.upd (⟨k3, hX, hY, show 1 ≤ 20 by decide, show 20 ≤ 300 by decide, show 1 ≤ 8 by decide, show 8 ≤ 80 by decide, show 1 ≤ 100 by decide, show 100 ≤ 1000 by decide, Or.inl rfl⟩) (Or.inr ⟨rfl, rfl, c⟩)
        have w4 : Fm SCl m m4 := (f3.mo (fun o j w => by unfold SRd at w; unfold SCl; omega)).tr (f4.mo (fun o j w => by unfold SCl; omega))
        have M4 : MM m4 n d a := i3.fr w4 (by unfold SCl; omega) (by unfold SCl; omega) (fun o j _ _ => by unfold SCl; omega)
        have hm4' : HM m4 e h H := i6.fr i4 w4 (by unfold SCl; omega) (by unfold SCl; omega) (fun j => by unfold SCl; omega)
        obtain ⟨m5, e5, hm5, M5, f5⟩ := mkeep_q i1 M4 i4 hm4'
        generalize hm6 : si (si (si (si (si (si (si (si m5 201 n (nI k)) 202 n (nI X)) 203 n (nI Y)) 204 n 20) 205 n 8) 206 n 100) 207 n 16) 200 1 (nI (n + 1)) = m6
        have f6 : Fm (fun o j => (201 ≤ o ∧ o ≤ 207 ∧ j = n) ∨ (o = 200 ∧ j = 1)) m5 m6 := by
          rw [← hm6]
          exact (((((((Fm.wr (by omega)).wr' (by omega)).wr' (by omega)).wr' (by omega)).wr' (by omega)).wr' (by omega)).wr' (by omega)).wr' (by omega)
        have M6 : MM m6 (n + 1) d (upA a n (newF k X Y)) := by
          refine M5.upd (Or.inr ⟨rfl, rfl⟩) ?_ (all7 ?_ ?_ ?_ ?_ ?_ ?_ ?_) ?_ ?_
          · rw [← hm6, si_s]
          · rw [← hm6]; simp [si1]; rfl
          · rw [← hm6]; simp [si1]; rfl
          · rw [← hm6]; simp [si1]; rfl
          · rw [← hm6]; simp [si1]; rfl
          · rw [← hm6]; simp [si1]; rfl
          · rw [← hm6]; simp [si1]; rfl
          · rw [← hm6]; simp [si1]; rfl
          · intro o j _ _ w1
            exact f6 o j (by omega)
          · exact f6 _ _ (by omega)
        refine ⟨nI n, m4, m6, rfl, ?_, ?_⟩
        · simp only [bd, bI_z, q0, M4.1]
          rw [if_neg (by decide), if_neg (by decide)]
          simp only [show ((1 : Nat) = 0) = False by simp, and_false, if_false]
          rw [if_neg (show ¬ nI n = (24 : Int32) from nI_ne (b := 24) (by omega) (by decide) (by omega)), e5]
          simp only []
          rw [M5.1]
          simp only [show ln 201 = 24 from rfl, show ln 202 = 24 from rfl, show ln 203 = 24 from rfl, show ln 204 = 24 from rfl, show ln 205 = 24 from rfl, show ln 206 = 24 from rfl, show ln 207 = 24 from rfl, wi_n c (show 24 < 2 ^ 31 by decide), si1, M5.1, show (200 = 201) = False by simp, show (200 = 202) = False by simp, show (200 = 203) = False by simp, show (200 = 204) = False by simp, show (200 = 205) = False by simp, show (200 = 206) = False by simp, show (200 = 207) = False by simp, false_and, if_false]
          simp only [and_self, if_true, nI_1, nI_pred]
          rw [hm6]
        · exact chg V4 C4 (hc3.fr f4 (fun o j _ => by omega)) (i4.up i1) (Or.inl (by rw [f4 _ _ (by omega)]; exact z1)) (Or.inl (by rw [f4 _ _ (by omega)]; exact z2)) (Or.inl (by rw [f4 _ _ (by omega)]; exact z3)) (f5.tr (f6.mo (fun o j w => by unfold SMo; omega))) M6 (hm5.fr (i4.up i1) f6 (by omega) (by omega) (fun j => by omega))
      · have n24' : n = 24 := by omega
        subst n24'
        rw [if_neg (show ¬ nI 24 < (24 : Int32) by decide)]
        refine ⟨-5, m, si m 200 0 0, rfl, ?_, _, _, _, _, _, _, i.m0⟩
        simp only [bI_z, q0, i3.1]
        rfl
