/-! PURE PART: undo on both sides; the invariant's core -/
def SU (o j : Nat) : Prop := (o = 200 ∧ j = 15) ∨ (201 ≤ o ∧ o ≤ 209)
def RK (m m' : Me) (x k : Nat) : Prop := Fm SU m m' ∧ m'.1 200 15 = nI (210 * x + 2 + ofK k) ∧ ∀ r i, 1 ≤ r → r ≤ k → i < (if r ≤ 7 then 24 else 20) → m'.1 (200 + r) i = m.1 210 (210 * x + 2 + ofK (r - 1) + i)
theorem rk_step {m m' : Me} {x k c : Nat} (he : x < 8) (hk : k < 9) (h : RK m m' x k) (hc : c = if k + 1 ≤ 7 then 24 else 20) :
    ∃ m'', f_Mo_read (200 + (k + 1)) (nI c) m' = some m'' ∧ RK m m'' x (k + 1) := by
  obtain ⟨f, h0, h3⟩ := h
  have hl : ln (200 + (k + 1)) = c := by
    rw [hc]
    rcases (show k = 0 ∨ k = 1 ∨ k = 2 ∨ k = 3 ∨ k = 4 ∨ k = 5 ∨ k = 6 ∨ k = 7 ∨ k = 8 by omega) with rfl | rfl | rfl | rfl | rfl | rfl | rfl | rfl | rfl <;> rfl
  have c24 : c ≤ 24 := by split at hc <;> omega
  have o1 : ofK (k + 1) = ofK k + c := by unfold ofK; split at hc <;> (repeat' split) <;> omega
  have o2 : ofK (k + 1) ≤ 208 := by unfold ofK; split <;> omega
  obtain ⟨m'', e1, g1, g2, g3⟩ := read_ok (o := 200 + (k + 1)) (c := c) hl (Nat.le_refl _) c24 (by omega) h0 (by omega)
  refine ⟨m'', e1, ?_, ?_, ?_⟩
  · refine f.tr (g3.mo ?_)
    intro o j q
    unfold SR at q
    unfold SU
    omega
  · rw [g1, o1]
    congr 1
    omega
  · intro r i r1 r2 hi
    by_cases hr : r = k + 1
    · subst hr
      rw [show k + 1 - 1 = k by omega, g2 i (by rw [hc]; exact hi)]
      exact f _ _ (by unfold SU; omega)
    · rw [g3 _ _ (by unfold SR; omega)]
      exact h3 r i r1 (by omega) hi
def SUU (o j : Nat) : Prop := (o = 200 ∧ (j = 0 ∨ j = 1 ∨ j = 2 ∨ j = 13 ∨ j = 14 ∨ j = 15)) ∨ (201 ≤ o ∧ o ≤ 209)
theorem e87 {e : Nat} (he : e < 8) : nI e + (8 : Int32) - (1 : Int32) - (nI e + (8 : Int32) - (1 : Int32)) / (8 : Int32) * (8 : Int32) = nI ((e + 7) % 8) := by
  have h1 : nI e + (8 : Int32) - (1 : Int32) = nI (e + 7) := by
    rw [show nI e + (8 : Int32) = nI (e + 7 + 1) from nI_add e 8]
    exact nI_pred (e + 7)
  rw [h1]
  exact pk_rem (a := e + 7) (d := 8) (by omega) (by decide) (by decide)
set_option maxHeartbeats 1000000 in
theorem undoM_ok {m : Me} {n d e h x : Nat} {a : Ch} (hV : VV n d a) (he : e < 8) (hh : h ≤ 8) (h0 : 0 < h) (hx : x = (e + 7) % 8) (hO : OO m x n d a) (he1 : m.1 200 13 = nI e) (hh1 : m.1 200 14 = nI h) :
    ∃ m', f_Mo_undo m = some (nI (h - 1), m') ∧ MM m' n d a ∧ Fm SUU m m' ∧ m'.1 200 13 = nI x ∧ m'.1 200 14 = nI (h - 1) := by
  obtain ⟨v1, v2, -⟩ := hV
  have x8 : x < 8 := by omega
  unfold f_Mo_undo
  simp only [bd]
  rw [show (si m 200 0 0).1 200 14 = nI h by rw [si1, if_neg (by omega)]; exact hh1, if_neg (nI_ne0 h0 (by omega)), show (si m 200 0 0).1 200 13 = nI e by rw [si1, if_neg (by omega)]; exact he1, e87 he, ← hx]
  rw [show (si (si m 200 0 0) 200 13 (nI x)).1 200 14 = nI h by rw [si1, if_neg (by omega), si1, if_neg (by omega)]; exact hh1]
  rw [show nI h - (1 : Int32) = nI (h - 1) from pk_sub (a := h) (b := 1) (by omega)]
  rw [show (si (si (si m 200 0 0) 200 13 (nI x)) 200 14 (nI (h - 1))).1 200 13 = nI x by rw [si1, if_neg (by omega), si_s]]
  rw [show (210 : Int32) * nI x = nI (210 * x) from pk_mul 210 x]
  generalize hm4 : si (si (si (si m 200 0 0) 200 13 (nI x)) 200 14 (nI (h - 1))) 200 15 (nI (210 * x)) = m4
  have f4 : Fm SUU m m4 := by
    rw [← hm4]
    exact (((Fm.wr (by unfold SUU; omega)).wr' (by unfold SUU; omega)).wr' (by unfold SUU; omega)).wr' (by unfold SUU; omega)
  have p13 : m4.1 200 13 = nI x := by rw [← hm4, si1, if_neg (by omega), si1, if_neg (by omega), si_s]
  have p14 : m4.1 200 14 = nI (h - 1) := by rw [← hm4, si1, if_neg (by omega), si_s]
  have p15 : m4.1 200 15 = nI (210 * x) := by rw [← hm4, si_s]
  have q210 : ∀ j, m4.1 210 j = m.1 210 j := fun j => f4 _ _ (by unfold SUU; omega)
  rw [p15, show ln 210 = 1680 from rfl, rd_n (by omega) (by omega), q210, hO.1]
  rw [show (si m4 200 1 (nI n)).1 200 15 = nI (210 * x) by rw [si1, if_neg (by omega)]; exact p15, show nI (210 * x) + (1 : Int32) = nI (210 * x + 1) from nI_1 _, rd_n (by omega) (by omega)]
  rw [show (si m4 200 1 (nI n)).1 210 (210 * x + 1) = nI d by rw [si1, if_neg (by omega), q210]; exact hO.2.1]
  rw [show (si (si m4 200 1 (nI n)) 200 2 (nI d)).1 200 15 = nI (210 * x) by rw [si1, if_neg (by omega), si1, if_neg (by omega)]; exact p15, show nI (210 * x) + (2 : Int32) = nI (210 * x + 2) from nI_add _ 2]
  generalize hm9 : si (si (si m4 200 1 (nI n)) 200 2 (nI d)) 200 15 (nI (210 * x + 2)) = m9
  have f9 : Fm SUU m m9 := by
    rw [← hm9]
    exact ((f4.wr' (by unfold SUU; omega)).wr' (by unfold SUU; omega)).wr' (by unfold SUU; omega)
  have r1 : m9.1 200 1 = nI n := by rw [← hm9, si1, if_neg (by omega), si1, if_neg (by omega), si_s]
  have r2 : m9.1 200 2 = nI d := by rw [← hm9, si1, if_neg (by omega), si_s]
  have r13 : m9.1 200 13 = nI x := by rw [← hm9, si1, if_neg (by omega), si1, if_neg (by omega), si1, if_neg (by omega)]; exact p13
  have r14 : m9.1 200 14 = nI (h - 1) := by rw [← hm9, si1, if_neg (by omega), si1, if_neg (by omega), si1, if_neg (by omega)]; exact p14
  have r210 : ∀ j, m9.1 210 j = m.1 210 j := fun j => f9 _ _ (by unfold SUU; omega)
  have s0 : RK m9 m9 x 0 := ⟨Fm.rf, by rw [← hm9, si_s]; rfl, fun r i r1 r2 => by omega⟩
  obtain ⟨m10, e10, s1⟩ := rk_step (c := 24) x8 (by omega) s0 rfl
  rw [show f_Mo_read 201 (24 : Int32) _ = some m10 from e10]
  simp only [cP]
  obtain ⟨m11, e11, s2⟩ := rk_step (c := 24) x8 (by omega) s1 rfl
  rw [show f_Mo_read 202 (24 : Int32) _ = some m11 from e11]
  simp only [cP]
  obtain ⟨m12, e12, s3⟩ := rk_step (c := 24) x8 (by omega) s2 rfl
  rw [show f_Mo_read 203 (24 : Int32) _ = some m12 from e12]
  simp only [cP]
  obtain ⟨m13, e13, s4⟩ := rk_step (c := 24) x8 (by omega) s3 rfl
  rw [show f_Mo_read 204 (24 : Int32) _ = some m13 from e13]
  simp only [cP]
  obtain ⟨m14, e14, s5⟩ := rk_step (c := 24) x8 (by omega) s4 rfl
  rw [show f_Mo_read 205 (24 : Int32) _ = some m14 from e14]
  simp only [cP]
  obtain ⟨m15, e15, s6⟩ := rk_step (c := 24) x8 (by omega) s5 rfl
  rw [show f_Mo_read 206 (24 : Int32) _ = some m15 from e15]
  simp only [cP]
  obtain ⟨m16, e16, s7⟩ := rk_step (c := 24) x8 (by omega) s6 rfl
  rw [show f_Mo_read 207 (24 : Int32) _ = some m16 from e16]
  simp only [cP]
  obtain ⟨m17, e17, s8⟩ := rk_step (c := 20) x8 (by omega) s7 rfl
  rw [show f_Mo_read 208 (20 : Int32) _ = some m17 from e17]
  simp only [cP]
  obtain ⟨m18, e18, s9⟩ := rk_step (c := 20) x8 (by omega) s8 rfl
  rw [show f_Mo_read 209 (20 : Int32) _ = some m18 from e18]
  simp only [cP]
  obtain ⟨t1, t2, t3⟩ := s9
  have u : ∀ j, j ≠ 15 → m18.1 200 j = m9.1 200 j := fun j hj => t1 _ _ (by unfold SU; omega)
  rw [u 14 (by omega), r14]
  refine ⟨m18, rfl, ⟨?_, ?_, ?_, ?_⟩, f9.tr (t1.mo ?_), ?_, ?_⟩
  · rw [u 1 (by omega)]; exact r1
  · rw [u 2 (by omega)]; exact r2
  · intro k i k1 k2 hi
    rw [t3 k i k1 (by omega) (by rw [if_pos k2]; omega), r210]
    exact hO.2.2.1 k i k1 k2 hi
  · intro i hi
    have u8 := t3 8 i (by omega) (by omega) (by rw [if_neg (by omega)]; omega)
    have u9 := t3 9 i (by omega) (by omega) (by rw [if_neg (by omega)]; omega)
    rw [r210] at u8 u9
    exact ⟨u8.trans (hO.2.2.2 i hi).1, u9.trans (hO.2.2.2 i hi).2⟩
  · intro o j q
    unfold SU at q
    unfold SUU
    omega
  · rw [u 13 (by omega)]; exact r13
  · rw [u 14 (by omega)]; exact r14
/-! the core -/
abbrev Hs : Type := Nat → Nat × Nat × Ch
def live (e h s : Nat) : Prop := (e + 7 - s) % 8 < h
def hup (H : Hs) (e n d : Nat) (a : Ch) : Hs := fun s => if s = e then (n, d, a) else H s
def HV (e h : Nat) (H : Hs) : Prop := e < 8 ∧ h ≤ 8 ∧ ∀ s, s < 8 → live e h s → VV (H s).1 (H s).2.1 (H s).2.2
def HC (m : Me) (e h : Nat) (H : Hs) : Prop := m.1 1 1 = nI e ∧ m.1 1 2 = nI h ∧ ∀ s, s < 8 → live e h s → CC m (20 + 10 * s) (H s).1 (H s).2.1 (H s).2.2
def HM (m : Me) (e h : Nat) (H : Hs) : Prop := m.1 200 13 = nI e ∧ m.1 200 14 = nI h ∧ ∀ s, s < 8 → live e h s → OO m s (H s).1 (H s).2.1 (H s).2.2
theorem live_up {e h s : Nat} (he : e < 8) (hh : h ≤ 8) (hs : s < 8) (hn : s ≠ e) (l : live ((e + 1) % 8) (mn8 h) s) : live e h s := by
  unfold live mn8 at *
  split at l <;> omega
theorem live_dn {e h s : Nat} (he : e < 8) (hh : h ≤ 8) (h0 : 0 < h) (hs : s < 8) (l : live ((e + 7) % 8) (h - 1) s) : live e h s ∧ s ≠ (e + 7) % 8 := by
  unfold live at *
  omega
theorem HV.up {e h n d : Nat} {a : Ch} {H : Hs} (hv : HV e h H) (hV : VV n d a) : HV ((e + 1) % 8) (mn8 h) (hup H e n d a) := by
  obtain ⟨h1, h2, h3⟩ := hv
  refine ⟨by omega, by unfold mn8; split <;> omega, ?_⟩
  intro s hs l
  unfold hup
  by_cases q : s = e
  · rw [if_pos q]; exact hV
  · rw [if_neg q]; exact h3 s hs (live_up h1 h2 hs q l)
theorem HV.dn {e h : Nat} {H : Hs} (hv : HV e h H) (h0 : 0 < h) : HV ((e + 7) % 8) (h - 1) H := by
  obtain ⟨h1, h2, h3⟩ := hv
  exact ⟨by omega, by omega, fun s hs l => h3 s hs (live_dn h1 h2 h0 hs l).1⟩
theorem HC.fr {S : Nat → Nat → Prop} {m m' : Me} {e h : Nat} {H : Hs} (c : HC m e h H) (f : Fm S m m') (g : ∀ o j, (o = 1 ∨ (20 ≤ o ∧ o < 100)) → ¬ S o j) : HC m' e h H := by
  obtain ⟨h1, h2, h3⟩ := c
  refine ⟨?_, ?_, ?_⟩
  · rw [f _ _ (g _ _ (by omega))]; exact h1
  · rw [f _ _ (g _ _ (by omega))]; exact h2
  · intro s hs l
    exact (h3 s hs l).fr f (fun o j q1 q2 => g o j (by omega))
theorem OO.fr {S : Nat → Nat → Prop} {m m' : Me} {s n d : Nat} {a : Ch} (hV : VV n d a) (c : OO m s n d a) (f : Fm S m m') (g : ∀ j, 210 * s ≤ j → j < 210 * s + 210 → ¬ S 210 j) : OO m' s n d a := by
  obtain ⟨h1, h2, h3, h4⟩ := c
  obtain ⟨v1, v2, -⟩ := hV
  refine ⟨?_, ?_, ?_, ?_⟩
  · rw [f _ _ (g _ (by omega) (by omega))]; exact h1
  · rw [f _ _ (g _ (by omega) (by omega))]; exact h2
  · intro k i k1 k2 hi
    have : ofK (k - 1) + 24 ≤ 168 := by unfold ofK; split <;> omega
    rw [f _ _ (g _ (by omega) (by omega))]; exact h3 k i k1 k2 hi
  · intro i hi
    rw [f _ _ (g _ (by omega) (by omega)), f _ _ (g _ (by omega) (by omega))]; exact h4 i hi
theorem HM.fr {S : Nat → Nat → Prop} {m m' : Me} {e h : Nat} {H : Hs} (hv : HV e h H) (c : HM m e h H) (f : Fm S m m') (g1 : ¬ S 200 13) (g2 : ¬ S 200 14) (g : ∀ j, ¬ S 210 j) : HM m' e h H := by
  obtain ⟨h1, h2, h3⟩ := c
  refine ⟨?_, ?_, ?_⟩
  · rw [f _ _ g1]; exact h1
  · rw [f _ _ g2]; exact h2
  · intro s hs l
    exact (h3 s hs l).fr (hv.2.2 s hs l) f (fun j _ _ => g j)
def SKM (o j : Nat) : Prop := (o = 200 ∧ (j = 0 ∨ j = 13 ∨ j = 14 ∨ j = 15)) ∨ o = 210
theorem keepM {m : Me} {n d e h : Nat} {a : Ch} {H : Hs} (hV : VV n d a) (hM : MM m n d a) (hv : HV e h H) (hH : HM m e h H) :
    ∃ m', f_Mo_keep m = some m' ∧ HM m' ((e + 1) % 8) (mn8 h) (hup H e n d a) ∧ MM m' n d a ∧ Fm SKM m m' := by
  obtain ⟨h1, h2, h3⟩ := hH
  obtain ⟨v1, v2, v3⟩ := id hv
  obtain ⟨m', e1, o, f, q1, q2⟩ := keepM_ok hV hM v1 v2 h1 h2
  refine ⟨m', e1, ⟨q1, q2, ?_⟩, ?_, f.mo ?_⟩
  · intro s hs l
    unfold hup
    by_cases q : s = e
    · rw [if_pos q]; subst q; exact o
    · rw [if_neg q]
      have l' := live_up v1 v2 hs q l
      exact (h3 s hs l').fr (v3 s hs l') f (fun j _ _ => by unfold SK; omega)
  · exact hM.fr f (by unfold SK; omega) (by unfold SK; omega) (fun o j _ _ => by unfold SK; omega)
  · intro o j q
    unfold SK at q
    unfold SKM
    omega
def SKC (o : Nat) (_ : Nat) : Prop := o = 1 ∨ (20 ≤ o ∧ o < 100)
theorem mn_8 {h : Nat} (hh : h ≤ 8) : mn (nI h + 1) 8 = nI (mn8 h) := by
  unfold mn mn8
  rw [nI_1]
  by_cases c : h < 8
  · rw [if_neg (show ¬ (8 : Int32) < nI _ from nI_nlt (a := 8) (by omega) (by decide)), if_pos c]
  · rw [if_pos (show (8 : Int32) < nI _ from nI_lt (a := 8) (by omega) (by omega)), if_neg c]
    rfl
theorem keepC {m : Me} {n d e h : Nat} {a : Ch} {H : Hs} (hV : VV n d a) (hC : CC m 10 n d a) (hv : HV e h H) (hH : HC m e h H) :
    ∃ m', f_Hist_keep m = some m' ∧ HC m' ((e + 1) % 8) (mn8 h) (hup H e n d a) ∧ CC m' 10 n d a ∧ Fm SKC m m' := by
  obtain ⟨h1, h2, h3⟩ := hH
  obtain ⟨v1, v2, v3⟩ := id hv
  obtain ⟨m2, e2, c2, f2⟩ := copy_ok (m := m) (p := 2 + e) (q := 1) (n := n) (d := d) (a := a) (by omega) (by omega) (by omega) hV.1 hV.2.1 hC
  unfold f_Hist_keep
  rw [h1, show ln 2 = 8 from rfl, rd_n v1 (by omega), show 20 + 10 * e = 10 * (2 + e) by omega, show f_Chart_copyFrom (10 * (2 + e)) 10 m = some m2 from e2]
  simp only [cP, bd]
  have q1 : m2.1 1 1 = nI e := (f2 _ _ (by omega)).trans h1
  have q2 : m2.1 1 2 = nI h := (f2 _ _ (by omega)).trans h2
  have hr : nI e + (1 : Int32) - (nI e + (1 : Int32)) / (8 : Int32) * (8 : Int32) = nI ((e + 1) % 8) := by
    rw [nI_1]
    exact pk_rem (a := e + 1) (d := 8) (by omega) (by decide) (by decide)
  rw [q1, hr, show (si m2 1 1 (nI ((e + 1) % 8))).1 1 2 = nI h by rw [si1, if_neg (by omega)]; exact q2, mn_8 v2]
  have ff : Fm (fun o _ => o = 1) m2 (si (si m2 1 1 (nI ((e + 1) % 8))) 1 2 (nI (mn8 h))) := Fm.wr' (S := fun o _ => o = 1) (Fm.wr (S := fun o _ => o = 1) rfl) rfl
  refine ⟨_, rfl, ⟨?_, si_s, ?_⟩, ?_, ?_⟩
  · rw [si1, if_neg (by omega), si_s]
  · intro s hs l
    unfold hup
    by_cases q : s = e
    · rw [if_pos q]
      subst q
      rw [show 20 + 10 * s = 10 * (2 + s) by omega]
      exact c2.fr ff (fun o j _ _ => by omega)
    · rw [if_neg q]
      have l' := live_up v1 v2 hs q l
      exact ((h3 s hs l').fr f2 (fun o j _ _ => by omega)).fr ff (fun o j _ _ => by omega)
  · exact (hC.fr f2 (fun o j _ _ => by omega)).fr ff (fun o j _ _ => by omega)
  · refine (f2.mo ?_).tr (ff.mo ?_)
    · intro o j q
      unfold SKC
      omega
    · intro o j q
      unfold SKC
      omega
theorem backC {m : Me} {n d e h : Nat} {a : Ch} {H : Hs} (hv : HV e h H) (hH : HC m e h H) (h0 : 0 < h) :
    ∃ m', f_Hist_takeBack m = some m' ∧ HC m' ((e + 7) % 8) (h - 1) H ∧ CC m' 10 (H ((e + 7) % 8)).1 (H ((e + 7) % 8)).2.1 (H ((e + 7) % 8)).2.2 ∧ Fm (fun o _ => o = 1 ∨ (10 ≤ o ∧ o < 20)) m m' := by
  obtain ⟨h1, h2, h3⟩ := hH
  obtain ⟨v1, v2, v3⟩ := id hv
  have x8 : (e + 7) % 8 < 8 := by omega
  have lx : live e h ((e + 7) % 8) := by unfold live; omega
  have ex := e87 v1
  have sx : ∀ s, s < 8 → live ((e + 7) % 8) (h - 1) s → live e h s ∧ s ≠ (e + 7) % 8 := fun s hs l => live_dn v1 v2 h0 hs l
  generalize (e + 7) % 8 = x at *
  have f1 : Fm (fun o _ => o = 1 ∨ (10 ≤ o ∧ o < 20)) m (si m 1 1 (nI x)) := Fm.wr (Or.inl rfl)
  have hVx := v3 x x8 lx
  have c1 : CC (si m 1 1 (nI x)) (10 * (2 + x)) (H x).1 (H x).2.1 (H x).2.2 := by
    rw [show 10 * (2 + x) = 20 + 10 * x by omega]
    exact (h3 x x8 lx).fr f1 (fun o j _ _ => by omega)
  obtain ⟨m2, e2, c2, f2⟩ := copy_ok (p := 1) (q := 2 + x) (by omega) (by omega) (by omega) hVx.1 hVx.2.1 c1
  unfold f_Hist_takeBack
  simp only [bd]
  rw [h1, ex, si_s, show ln 2 = 8 from rfl, rd_n x8 (by omega), show 20 + 10 * x = 10 * (2 + x) by omega, show f_Chart_copyFrom 10 (10 * (2 + x)) _ = some m2 from e2]
  simp only [cP]
  have f12 : Fm (fun o _ => o = 1 ∨ (10 ≤ o ∧ o < 20)) m m2 := f1.tr (f2.mo (fun o j q => by omega))
  have q2 : m2.1 1 2 = nI h := by rw [f2 _ _ (by omega), si1, if_neg (by omega)]; exact h2
  rw [q2, show nI h - (1 : Int32) = nI (h - 1) from pk_sub (a := h) (b := 1) (by omega)]
  have f3 : Fm (fun o _ => o = 1) m2 (si m2 1 2 (nI (h - 1))) := Fm.wr rfl
  refine ⟨_, rfl, ⟨?_, si_s, ?_⟩, c2.fr f3 (fun o j _ _ => by omega), f12.tr (f3.mo (fun o j q => Or.inl q))⟩
  · rw [si1, if_neg (by omega), f2 _ _ (by omega), si_s]
  · intro s hs l
    obtain ⟨l1, l2⟩ := sx s hs l
    exact ((h3 s hs l1).fr f12 (fun o j _ _ => by omega)).fr f3 (fun o j _ _ => by omega)
