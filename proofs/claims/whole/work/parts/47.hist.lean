/-! PURE PART: what is kept, and undo, on both sides -/
theorem ln_c {o : Nat} (h1 : 10 ≤ o) (h2 : o < 100) : ln o = if 8 ≤ o % 10 then 20 else 24 := by
  unfold ln
  rw [if_neg (by omega), if_pos h2]
def cpM (m : Me) (o1 o2 n : Nat) : Me := sr m o2 (va_cpy (m.1 o1) (m.1 o2) 0 0 n)
theorem cpM_1 {m : Me} {o1 o2 n o j : Nat} : (cpM m o1 o2 n).1 o j = if o = o2 ∧ j < n then m.1 o1 j else m.1 o j := by
  unfold cpM sr
  by_cases h : o = o2
  · subst h
    simp only [true_and, if_true]
    by_cases hj : j < n
    · rw [if_pos hj, pk_cpy_in (Nat.zero_le _) (by omega)]
      rw [show 0 + (j - 0) = j by omega]
    · rw [if_neg hj, pk_cpy_out (Or.inr (by omega))]
  · simp [h]
theorem ac_n {ρ : Type} {m : Me} {o1 o2 n : Nat} {K : Me → Option ρ} (h1 : n ≤ ln o1) (h2 : n ≤ ln o2) (hn : n < 2 ^ 31) : ac m o1 0 o2 0 (nI n) K = K (cpM m o1 o2 n) := by
  unfold ac
  rw [nI_clamp hn, show (0 : Int32).toNatClampNeg = 0 from rfl, if_neg]
  · rfl
  · rintro (h | h | h | h | h)
    · exact absurd h (by decide)
    · exact absurd h (by decide)
    · exact nI_pos hn h
    · omega
    · omega
def CPk (m m' : Me) (c1 c0 n d k : Nat) : Prop := Fm (fun o _ => c1 ≤ o ∧ o ≤ c1 + 9) m m' ∧ m'.1 c1 0 = nI n ∧ m'.1 c1 1 = nI d ∧ (∀ r i, 1 ≤ r → r ≤ k → i < (if r ≤ 7 then n else d) → m'.1 (c1 + r) i = m.1 (c0 + r) i) ∧ m'.2 = m.2
theorem cp_step {m m' : Me} {p q n d k c : Nat} {x : Int32} (hp : 1 ≤ p ∧ p ≤ 9) (hq : 1 ≤ q ∧ q ≤ 9) (hpq : p ≠ q) (hn : n ≤ 24) (hd : d ≤ 20) (hk : k < 9) (h : CPk m m' (10 * p) (10 * q) n d k) (hc : c = if k + 1 ≤ 7 then n else d) (hx : x = nI c) :
    ∃ m'', (∀ K : Me → Option Me, ac m' (10 * q + (k + 1)) 0 (10 * p + (k + 1)) 0 x K = K m'') ∧ CPk m m'' (10 * p) (10 * q) n d (k + 1) := by
  obtain ⟨f, h0, h1, h2, h3⟩ := h
  subst hx
  have l1 : c ≤ ln (10 * q + (k + 1)) := by
    rw [ln_c (by omega) (by omega)]
    split <;> split at hc <;> omega
  have l2 : c ≤ ln (10 * p + (k + 1)) := by
    rw [ln_c (by omega) (by omega)]
    split <;> split at hc <;> omega
  refine ⟨_, fun K => ac_n l1 l2 (by split at hc <;> omega), ?_, ?_, ?_, ?_, ?_⟩
  · intro o j hS
    rw [cpM_1, if_neg (by omega)]
    exact f o j hS
  · rw [cpM_1, if_neg (by omega)]; exact h0
  · rw [cpM_1, if_neg (by omega)]; exact h1
  · intro r i r1 r2 hi
    rw [cpM_1]
    by_cases hr : r = k + 1
    · subst hr
      rw [if_pos ⟨rfl, by rw [hc]; exact hi⟩]
      exact f _ _ (by omega)
    · rw [if_neg (by omega)]
      exact h2 r i r1 (by omega) hi
  · exact h3
set_option maxHeartbeats 1000000 in
theorem copy_ok {m : Me} {p q n d : Nat} {a : Ch} (hp : 1 ≤ p ∧ p ≤ 9) (hq : 1 ≤ q ∧ q ≤ 9) (hpq : p ≠ q) (hn : n ≤ 24) (hd : d ≤ 20) (hC : CC m (10 * q) n d a) :
    ∃ m', f_Chart_copyFrom (10 * p) (10 * q) m = some m' ∧ CC m' (10 * p) n d a ∧ Fm (fun o _ => 10 * p ≤ o ∧ o ≤ 10 * p + 9) m m' := by
  obtain ⟨c0, c1, c2, c3, c4⟩ := hC
  have s0 : CPk m (si (si m (10 * p) 0 (nI n)) (10 * p) 1 (nI d)) (10 * p) (10 * q) n d 0 := by
    refine ⟨(Fm.wr (by omega)).wr' (by omega), ?_, ?_, ?_, rfl⟩
    · rw [si1, if_neg (by omega), si_s]
    · rw [si_s]
    · intro r i r1 r2
      omega
  unfold f_Chart_copyFrom
  simp only [bd]
  rw [c0, show (si m (10 * p) 0 (nI n)).1 (10 * q) 1 = nI d by rw [si1, if_neg (by omega)]; exact c1]
  obtain ⟨m3, e3, s1⟩ := cp_step hp hq hpq hn hd (by omega) s0 rfl s0.2.1
  rw [e3]
  obtain ⟨m4, e4, s2⟩ := cp_step hp hq hpq hn hd (by omega) s1 rfl s1.2.1
  rw [e4]
  obtain ⟨m5, e5, s3⟩ := cp_step hp hq hpq hn hd (by omega) s2 rfl s2.2.1
  rw [e5]
  obtain ⟨m6, e6, s4⟩ := cp_step hp hq hpq hn hd (by omega) s3 rfl s3.2.1
  rw [e6]
  obtain ⟨m7, e7, s5⟩ := cp_step hp hq hpq hn hd (by omega) s4 rfl s4.2.1
  rw [e7]
  obtain ⟨m8, e8, s6⟩ := cp_step hp hq hpq hn hd (by omega) s5 rfl s5.2.1
  rw [e8]
  obtain ⟨m9, e9, s7⟩ := cp_step hp hq hpq hn hd (by omega) s6 rfl s6.2.1
  rw [e9]
  obtain ⟨m10, e10, s8⟩ := cp_step hp hq hpq hn hd (by omega) s7 rfl s7.2.2.1
  rw [e10]
  obtain ⟨m11, e11, s9⟩ := cp_step hp hq hpq hn hd (by omega) s8 rfl s8.2.2.1
  rw [e11]
  obtain ⟨t1, t2, t3, t4, -⟩ := s9
  refine ⟨m11, rfl, ⟨t2, t3, ?_, ?_, ?_⟩, t1⟩
  · intro k i k1 k2 hi
    rw [t4 k i k1 (by omega) (by rw [if_pos (by omega)]; exact hi)]
    exact c2 k i k1 k2 hi
  · intro i hi
    rw [t4 7 i (by omega) (by omega) (by rw [if_pos (by omega)]; exact hi)]
    exact c3 i hi
  · intro i hi
    rw [t4 8 i (by omega) (by omega) (by rw [if_neg (by omega)]; exact hi), t4 9 i (by omega) (by omega) (by rw [if_neg (by omega)]; exact hi)]
    exact c4 i hi
/-! the reference's rows -/
def ofK (k : Nat) : Nat := if k ≤ 7 then 24 * k else 168 + 20 * (k - 7)
def SW (p c o j : Nat) : Prop := (o = 200 ∧ j = 15) ∨ (o = 210 ∧ p ≤ j ∧ j < p + c)
theorem write_ok {m : Me} {o c p L : Nat} (hL : ln o = L) (hc : c ≤ L) (hL2 : L ≤ 24) (ho : o ≠ 200 ∧ o ≠ 210) (hp : m.1 200 15 = nI p) (hpc : p + c ≤ 1680) :
    ∃ m', f_Mo_write o (nI c) m = some m' ∧ m'.1 200 15 = nI (p + c) ∧ (∀ j, j < c → m'.1 210 (p + j) = m.1 o j) ∧ Fm (SW p c) m m' := by
  have l2 : c < 2 ^ 31 := by omega
  unfold f_Mo_write
  refine up aM c (fun k m' => m'.1 200 15 = nI (p + k) ∧ (∀ j, j < k → m'.1 210 (p + j) = m.1 o j) ∧ Fm (SW p c) m m') (fun r => ∃ m', r = some m' ∧ m'.1 200 15 = nI (p + c) ∧ (∀ j, j < c → m'.1 210 (p + j) = m.1 o j) ∧ Fm (SW p c) m m') 0 m (by omega) (by unfold FU; omega) ⟨hp, fun j hj => by omega, Fm.rf⟩ ?_ ?_
  · rintro f k m' hk ⟨h1, h2, h3⟩ ih
    show ∃ m'', lb_Mo_write_2 o (nI c) f (nI k) m' = some m'' ∧ _
    unfold lb_Mo_write_2
    rw [if_neg (nI_ge hk l2), h1, show ln 210 = 1680 from rfl, hL, rd_n (by omega) (by omega), wi_n (by omega) (by omega)]
    simp only [bd, nI_1]
    rw [si1, if_neg (by omega), h1, show nI (p + k) + (1 : Int32) = nI (p + (k + 1)) from nI_1 _]
    refine ih _ ⟨si_s, ?_, (h3.wr' (by unfold SW; omega)).wr' (by unfold SW; omega)⟩
    intro j hj
    rw [si1, if_neg (by omega), si1]
    by_cases q : j = k
    · subst q
      rw [if_pos ⟨rfl, rfl⟩]
      exact h3 _ _ (by unfold SW; omega)
    · rw [if_neg (by omega)]
      exact h2 j (by omega)
  · rintro f m' ⟨h1, h2, h3⟩
    show ∃ m'', lb_Mo_write_2 o (nI c) f (nI c) m' = some m'' ∧ _
    unfold lb_Mo_write_2
    rw [if_pos (nI_le (Nat.le_refl _) l2)]
    exact ⟨m', rfl, h1, h2, h3⟩
def SR (x c o j : Nat) : Prop := (o = 200 ∧ j = 15) ∨ (o = x ∧ j < c)
theorem read_ok {m : Me} {o c p L : Nat} (hL : ln o = L) (hc : c ≤ L) (hL2 : L ≤ 24) (ho : o ≠ 200 ∧ o ≠ 210) (hp : m.1 200 15 = nI p) (hpc : p + c ≤ 1680) :
    ∃ m', f_Mo_read o (nI c) m = some m' ∧ m'.1 200 15 = nI (p + c) ∧ (∀ j, j < c → m'.1 o j = m.1 210 (p + j)) ∧ Fm (SR o c) m m' := by
  have l2 : c < 2 ^ 31 := by omega
  unfold f_Mo_read
  refine up aM c (fun k m' => m'.1 200 15 = nI (p + k) ∧ (∀ j, j < k → m'.1 o j = m.1 210 (p + j)) ∧ Fm (SR o c) m m') (fun r => ∃ m', r = some m' ∧ m'.1 200 15 = nI (p + c) ∧ (∀ j, j < c → m'.1 o j = m.1 210 (p + j)) ∧ Fm (SR o c) m m') 0 m (by omega) (by unfold FU; omega) ⟨hp, fun j hj => by omega, Fm.rf⟩ ?_ ?_
  · rintro f k m' hk ⟨h1, h2, h3⟩ ih
    show ∃ m'', lb_Mo_read_2 o (nI c) f (nI k) m' = some m'' ∧ _
    unfold lb_Mo_read_2
    rw [if_neg (nI_ge hk l2), h1, show ln 210 = 1680 from rfl, hL, rd_n (by omega) (by omega), wi_n (by omega) (by omega)]
    simp only [bd, nI_1]
    rw [si1, if_neg (by omega), h1, show nI (p + k) + (1 : Int32) = nI (p + (k + 1)) from nI_1 _]
    refine ih _ ⟨si_s, ?_, (h3.wr' (by unfold SR; omega)).wr' (by unfold SR; omega)⟩
    intro j hj
    rw [si1, if_neg (by omega), si1]
    by_cases q : j = k
    · subst q
      rw [if_pos ⟨rfl, rfl⟩]
      exact h3 _ _ (by unfold SR; omega)
    · rw [if_neg (by omega)]
      exact h2 j (by omega)
  · rintro f m' ⟨h1, h2, h3⟩
    show ∃ m'', lb_Mo_read_2 o (nI c) f (nI c) m' = some m'' ∧ _
    unfold lb_Mo_read_2
    rw [if_pos (nI_le (Nat.le_refl _) l2)]
    exact ⟨m', rfl, h1, h2, h3⟩
def OO (m : Me) (s n d : Nat) (a : Ch) : Prop := m.1 210 (210 * s) = nI n ∧ m.1 210 (210 * s + 1) = nI d ∧ (∀ k i, 1 ≤ k → k ≤ 7 → i < n → m.1 210 (210 * s + 2 + ofK (k - 1) + i) = nI (a k i)) ∧ ∀ i, i < d → m.1 210 (210 * s + 170 + i) = nI (a 8 i) ∧ m.1 210 (210 * s + 190 + i) = nI (a 9 i)
def SK (e o j : Nat) : Prop := (o = 200 ∧ (j = 0 ∨ j = 13 ∨ j = 14 ∨ j = 15)) ∨ (o = 210 ∧ 210 * e ≤ j ∧ j < 210 * e + 210)
def WK (m m' : Me) (e k : Nat) : Prop := Fm (SK e) m m' ∧ m'.1 200 15 = nI (210 * e + 2 + ofK k) ∧ m'.1 210 (210 * e) = m.1 200 1 ∧ m'.1 210 (210 * e + 1) = m.1 200 2 ∧ (∀ r i, 1 ≤ r → r ≤ k → i < (if r ≤ 7 then 24 else 20) → m'.1 210 (210 * e + 2 + ofK (r - 1) + i) = m.1 (200 + r) i) ∧ m'.1 200 13 = m.1 200 13 ∧ m'.1 200 14 = m.1 200 14
theorem wk_step {m m' : Me} {e k c : Nat} (he : e < 8) (hk : k < 9) (h : WK m m' e k) (hc : c = if k + 1 ≤ 7 then 24 else 20) :
    ∃ m'', f_Mo_write (200 + (k + 1)) (nI c) m' = some m'' ∧ WK m m'' e (k + 1) := by
  obtain ⟨f, h0, h1, h2, h3, h4, h5⟩ := h
  have hl : ln (200 + (k + 1)) = c := by
    rw [hc]
    rcases (show k = 0 ∨ k = 1 ∨ k = 2 ∨ k = 3 ∨ k = 4 ∨ k = 5 ∨ k = 6 ∨ k = 7 ∨ k = 8 by omega) with rfl | rfl | rfl | rfl | rfl | rfl | rfl | rfl | rfl <;> rfl
  have c24 : c ≤ 24 := by split at hc <;> omega
  have o1 : ofK (k + 1) = ofK k + c := by unfold ofK; split at hc <;> (repeat' split) <;> omega
  have o2 : ofK (k + 1) ≤ 208 := by unfold ofK; split <;> omega
  obtain ⟨m'', e1, g1, g2, g3⟩ := write_ok (o := 200 + (k + 1)) (c := c) hl (Nat.le_refl _) c24 (by omega) h0 (by omega)
  refine ⟨m'', e1, ?_, ?_, ?_, ?_, ?_, ?_, ?_⟩
  · refine f.tr (g3.mo ?_)
    intro o j q
    unfold SW at q
    unfold SK
    omega
  · rw [g1, o1]
    congr 1
    omega
  · rw [g3 _ _ (by unfold SW; omega)]; exact h1
  · rw [g3 _ _ (by unfold SW; omega)]; exact h2
  · intro r i r1 r2 hi
    by_cases hr : r = k + 1
    · subst hr
      rw [show k + 1 - 1 = k by omega, g2 i (by rw [hc]; exact hi)]
      exact f _ _ (by unfold SK; omega)
    · have o3 : ofK (r - 1) + i < ofK k := by
        unfold ofK
        split at hi <;> (repeat' split) <;> omega
      rw [g3 _ _ (by unfold SW; omega)]
      exact h3 r i r1 (by omega) hi
  · rw [g3 _ _ (by unfold SW; omega)]; exact h4
  · rw [g3 _ _ (by unfold SW; omega)]; exact h5
def mn8 (h : Nat) : Nat := if h < 8 then h + 1 else 8
set_option maxHeartbeats 1000000 in
theorem keepM_ok {m : Me} {n d e h : Nat} {a : Ch} (hV : VV n d a) (hM : MM m n d a) (he : e < 8) (hh : h ≤ 8) (he1 : m.1 200 13 = nI e) (hh1 : m.1 200 14 = nI h) :
    ∃ m', f_Mo_keep m = some m' ∧ OO m' e n d a ∧ Fm (SK e) m m' ∧ m'.1 200 13 = nI ((e + 1) % 8) ∧ m'.1 200 14 = nI (mn8 h) := by
  obtain ⟨v1, v2, -⟩ := hV
  unfold f_Mo_keep
  simp only [bd]
  rw [he1, show (210 : Int32) * nI e = nI (210 * e) from pk_mul 210 e]
  rw [si_s, show ln 210 = 1680 from rfl, wi_n (by omega) (by omega)]
  rw [show (si (si m 200 15 (nI (210 * e))) 210 (210 * e) ((si m 200 15 (nI (210 * e))).1 200 1)).1 200 15 = nI (210 * e) by rw [si1, if_neg (by omega), si_s]]
  rw [show nI (210 * e) + (1 : Int32) = nI (210 * e + 1) from nI_1 _, wi_n (by omega) (by omega)]
  generalize hm3 : si (si (si m 200 15 (nI (210 * e))) 210 (210 * e) ((si m 200 15 (nI (210 * e))).1 200 1)) 210 (210 * e + 1) ((si (si m 200 15 (nI (210 * e))) 210 (210 * e) ((si m 200 15 (nI (210 * e))).1 200 1)).1 200 2) = m3
  have f3 : Fm (SK e) m m3 := by
    rw [← hm3]
    exact ((Fm.wr (by unfold SK; omega)).wr' (by unfold SK; omega)).wr' (by unfold SK; omega)
  have p3 : m3.1 200 15 = nI (210 * e) := by
    rw [← hm3, si1, if_neg (by omega), si1, if_neg (by omega), si_s]
  have s0 : WK m (si m3 200 15 (m3.1 200 15 + 2)) e 0 := by
    refine ⟨f3.wr' (by unfold SK; omega), ?_, ?_, ?_, ?_, ?_, ?_⟩
    · rw [si_s, p3]
      exact nI_add (210 * e) 2
    · rw [si1, if_neg (by omega), ← hm3, si1, if_neg (by omega), si_s, si1, if_neg (by omega)]
    · rw [si1, if_neg (by omega), ← hm3, si_s, si1, if_neg (by omega), si1, if_neg (by omega)]
    · intro r i r1 r2
      omega
    · rw [si1, if_neg (by omega), ← hm3, si1, if_neg (by omega), si1, if_neg (by omega), si1, if_neg (by omega)]
    · rw [si1, if_neg (by omega), ← hm3, si1, if_neg (by omega), si1, if_neg (by omega), si1, if_neg (by omega)]
  obtain ⟨m5, e5, s1⟩ := wk_step (c := 24) he (by omega) s0 rfl
  rw [show f_Mo_write 201 (24 : Int32) _ = some m5 from e5]
  simp only [cP]
  obtain ⟨m6, e6, s2⟩ := wk_step (c := 24) he (by omega) s1 rfl
  rw [show f_Mo_write 202 (24 : Int32) _ = some m6 from e6]
  simp only [cP]
  obtain ⟨m7, e7, s3⟩ := wk_step (c := 24) he (by omega) s2 rfl
  rw [show f_Mo_write 203 (24 : Int32) _ = some m7 from e7]
  simp only [cP]
  obtain ⟨m8, e8, s4⟩ := wk_step (c := 24) he (by omega) s3 rfl
  rw [show f_Mo_write 204 (24 : Int32) _ = some m8 from e8]
  simp only [cP]
  obtain ⟨m9, e9, s5⟩ := wk_step (c := 24) he (by omega) s4 rfl
  rw [show f_Mo_write 205 (24 : Int32) _ = some m9 from e9]
  simp only [cP]
  obtain ⟨m10, e10, s6⟩ := wk_step (c := 24) he (by omega) s5 rfl
  rw [show f_Mo_write 206 (24 : Int32) _ = some m10 from e10]
  simp only [cP]
  obtain ⟨m11, e11, s7⟩ := wk_step (c := 24) he (by omega) s6 rfl
  rw [show f_Mo_write 207 (24 : Int32) _ = some m11 from e11]
  simp only [cP]
  obtain ⟨m12, e12, s8⟩ := wk_step (c := 20) he (by omega) s7 rfl
  rw [show f_Mo_write 208 (20 : Int32) _ = some m12 from e12]
  simp only [cP]
  obtain ⟨m13, e13, s9⟩ := wk_step (c := 20) he (by omega) s8 rfl
  rw [show f_Mo_write 209 (20 : Int32) _ = some m13 from e13]
  simp only [cP]
  obtain ⟨t1, t2, t3, t4, t5, t6, t7⟩ := s9
  have q1 : m13.1 200 13 = nI e := t6.trans he1
  have q2 : m13.1 200 14 = nI h := t7.trans hh1
  have hr : nI e + (1 : Int32) - (nI e + (1 : Int32)) / (8 : Int32) * (8 : Int32) = nI ((e + 1) % 8) := by
    rw [nI_1]
    exact pk_rem (a := e + 1) (d := 8) (by omega) (by decide) (by decide)
  rw [q1, hr, show (si m13 200 13 (nI ((e + 1) % 8))).1 200 14 = nI h by rw [si1, if_neg (by omega)]; exact q2]
  have key : ∀ v, ∃ m', some (si (si m13 200 13 (nI ((e + 1) % 8))) 200 14 v) = some m' ∧ OO m' e n d a ∧ Fm (SK e) m m' ∧ m'.1 200 13 = nI ((e + 1) % 8) ∧ m'.1 200 14 = v := by
    intro v
    refine ⟨_, rfl, ⟨?_, ?_, ?_, ?_⟩, (t1.wr' (by unfold SK; omega)).wr' (by unfold SK; omega), ?_, si_s⟩
    · rw [si1, if_neg (by omega), si1, if_neg (by omega), t3]; exact hM.1
    · rw [si1, if_neg (by omega), si1, if_neg (by omega), t4]; exact hM.2.1
    · intro k i k1 k2 hi
      rw [si1, if_neg (by omega), si1, if_neg (by omega), t5 k i k1 (by omega) (by rw [if_pos k2]; omega)]
      exact hM.2.2.1 k i k1 k2 hi
    · intro i hi
      have u8 := t5 8 i (by omega) (by omega) (by rw [if_neg (by omega)]; omega)
      have u9 := t5 9 i (by omega) (by omega) (by rw [if_neg (by omega)]; omega)
      rw [si1, if_neg (by omega), si1, if_neg (by omega), si1, if_neg (by omega), si1, if_neg (by omega)]
      have w := hM.2.2.2 i hi
      exact ⟨u8.trans w.1, u9.trans w.2⟩
    · rw [si1, if_neg (by omega), si_s]
  by_cases c : h < 8
  · rw [if_neg (show ¬ (8 : Int32) ≤ nI _ from nI_ge (b := 8) c (by decide)), show nI h + (1 : Int32) = nI (h + 1) from nI_1 _, show mn8 h = h + 1 by unfold mn8; rw [if_pos c]]
    exact key _
  · rw [if_pos (show (8 : Int32) ≤ nI _ from nI_le (a := 8) (by omega) (by omega)), show mn8 h = 8 by unfold mn8; rw [if_neg c]]
    exact key _
