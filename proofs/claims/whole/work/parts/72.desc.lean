/-! PURE PART, BEST: the class's descent -/
def SRm (m : Me) (K : Nat) (must : Nat → Bool) (gain : Nat → Nat → Nat) (ban : Nat → Nat → Nat → Nat → Bool) : Prop :=
  K ≤ 7 ∧ m.1 9 5 = nI K ∧ (∀ i, i < K → m.1 101 i = bI (must i)) ∧ (∀ i r, i < K → r < 17 → m.1 102 (i * 17 + r) = nI (gain i r)) ∧ ∀ i r j s, i < K → r < 17 → j < 8 → s < 16 → av (m.2 103 (i * 17 + r)) (m.2 104 (i * 17 + r)) j s = ban i r j s
def GM (Ob : Nat → Nat → Bool) (gain : Nat → Nat → Nat) : Prop := (∀ i r, gain i r ≤ 200000) ∧ (∀ i, gain i 16 = 0) ∧ ∀ i r r', r < r' → r' ≤ 16 → Ob i r = true → (r' < 16 → Ob i r' = true) → gain i r' ≤ gain i r
def InO (K : Nat) (A Ob : Nat → Nat → Bool) : Prop := ∀ j s, j < K → s < 16 → A j s = true → Ob j s = true
def S98 (o j : Nat) : Prop := o = 9 ∧ (j = 8 ∨ j = 9)
theorem SRm.fr {m m' : Me} {K : Nat} {must : Nat → Bool} {gain : Nat → Nat → Nat} {ban : Nat → Nat → Nat → Nat → Bool} (h : SRm m K must gain ban) (f : Fm S98 m m') (g : ∀ o, o = 103 ∨ o = 104 → m'.2 o = m.2 o) : SRm m' K must gain ban := by
  obtain ⟨h1, h2, h3, h4, h5⟩ := h
  refine ⟨h1, ?_, ?_, ?_, ?_⟩
  · rw [f _ _ (by unfold S98; omega)]; exact h2
  · intro i hi
    rw [f _ _ (by unfold S98; omega)]; exact h3 i hi
  · intro i r hi hr
    rw [f _ _ (by unfold S98; omega)]; exact h4 i r hi hr
  · intro i r j s hi hr hj hs
    rw [g 103 (Or.inl rfl), g 104 (Or.inr rfl)]; exact h5 i r j s hi hr hj hs
theorem bb_zero {u : Int32} (h : ∀ s, 16 ≤ s → bb u s = false) : u = 0 ↔ ∀ s, s < 16 → bb u s = false := by
  constructor
  · rintro rfl s _
    exact bb_0 s
  · intro g
    apply bb_ext
    intro k _
    rw [bb_0]
    rcases Nat.lt_or_ge k 16 with q | q
    · exact g k q
    · exact h k q
theorem hope_ok {m : Me} {K : Nat} {must : Nat → Bool} {gain : Nat → Nat → Nat} {ban : Nat → Nat → Nat → Nat → Bool} {Ob : Nat → Nat → Bool} {i q : Nat} {F B : Int64} (hS : SRm m K must gain ban) (hG : GM Ob gain) (hA : InO K (av F B) Ob) (hi : i + q = K) :
    ∃ h, f_Search_hope (nI i) F B m = some h ∧ ((∃ hv : Nat, h = nI hv ∧ hv ≤ 200000 * q ∧ ∀ c, CPr must ban q i (av F B) c → vlr gain q i c ≤ hv) ∨ (h = (-1000000000 : Int32) ∧ ∀ c, ¬ CPr must ban q i (av F B) c)) := by
  obtain ⟨s1, s2, s3, s4, s5⟩ := hS
  obtain ⟨g1, g2, g3⟩ := hG
  unfold f_Search_hope
  refine up aV K (fun j s => i ≤ j ∧ ∃ sv : Nat, s = nI sv ∧ sv ≤ 200000 * (j - i) ∧ ∀ c, (∀ t, i ≤ t → t < K → usA must (av F B) t (c t) = true) → vlr gain (j - i) i c ≤ sv) (fun r => ∃ h, r = some h ∧ ((∃ hv : Nat, h = nI hv ∧ hv ≤ 200000 * q ∧ ∀ c, CPr must ban q i (av F B) c → vlr gain q i c ≤ hv) ∨ (h = (-1000000000 : Int32) ∧ ∀ c, ¬ CPr must ban q i (av F B) c))) i 0 (by omega) (by unfold FU; omega) ⟨Nat.le_refl _, 0, rfl, Nat.zero_le _, fun c _ => by rw [Nat.sub_self]; exact Nat.le_refl _⟩ ?_ ?_
  · rintro f j s hj ⟨ij, sv, rfl, b1, b2⟩ ih
    show ∃ h, lb_Search_hope_6 F B m f (nI sv) (nI j) = some h ∧ _
    unfold lb_Search_hope_6
    obtain ⟨u, eu, u1, u2⟩ := bitsOf_eq (i := j) (F := F) (B := B) (m := m) (by omega)
    rw [s2, if_neg (nI_ge hj (by omega)), eu, cP_s]
    simp only [bd, nI_1]
    have e1 : j + 1 - i = (j - i) + 1 := by omega
    have ev : ∀ c, vlr gain (j + 1 - i) i c = vlr gain (j - i) i c + gain j (c j) := fun c => by
      rw [e1, vl_sn, show i + (j - i) = j by omega]
    by_cases u0 : u = 0
    · rw [if_pos u0, show ln 101 = 7 from rfl, rd_n (by omega) (by omega), s3 j hj]
      simp only [bI_z]
      have no := (bb_zero u2).mp u0
      have c16 : ∀ c : Nat → Nat, usA must (av F B) j (c j) = true → c j = 16 ∧ must j = false := by
        intro c hu
        unfold usA at hu
        split at hu
        · rename_i w
          rw [← u1 _ w, no _ w] at hu
          cases hu
        · rw [Bool.and_eq_true] at hu
          exact ⟨of_decide_eq_true hu.1, by simpa using hu.2⟩
      cases hm : must j with
      | false =>
        rw [if_pos rfl]
        refine ih _ ⟨by omega, sv, rfl, by omega, fun c hc => ?_⟩
        rw [ev, (c16 c (hc j ij hj)).1, g2]
        exact b2 c hc
      | true =>
        rw [if_neg (by decide)]
        refine ⟨_, rfl, Or.inr ⟨rfl, fun c hc => ?_⟩⟩
        have := (c16 c ((CP_flat.mp hc).1 j ij (by omega))).2
        rw [hm] at this
        cases this
    · rw [if_neg u0]
      obtain ⟨t, t16, et, t1, t2⟩ := ntz_eq (m := m) u2 u0
      rw [et, cP_s, show nI j * (17 : Int32) = nI (j * 17) from pk_mul j 17, nI_add, show ln 102 = 119 from rfl, rd_n (by omega) (by omega), s4 j t hj (by omega), nI_add]
      have gt := g1 j t
      refine ih _ ⟨by omega, sv + gain j t, rfl, by omega, fun c hc => ?_⟩
      rw [ev]
      have h1 := b2 c hc
      have h2 := hc j ij hj
      have ot : Ob j t = true := hA j t hj t16 (by rw [← u1 t t16]; exact t1)
      have : gain j (c j) ≤ gain j t := by
        have le := us_le h2
        unfold usA at h2
        by_cases w : c j < 16
        · rw [if_pos w] at h2
          rcases Nat.lt_trichotomy (c j) t with z | z | z
          · have := t2 _ z
            rw [u1 _ w, h2] at this
            cases this
          · rw [z]; exact Nat.le_refl _
          · exact g3 j t (c j) z le ot (fun _ => hA j (c j) hj w h2)
        · exact g3 j t (c j) (by omega) le ot (fun z => absurd z w)
      omega
  · rintro f s ⟨ij, sv, rfl, b1, b2⟩
    show ∃ h, lb_Search_hope_6 F B m f (nI sv) (nI K) = some h ∧ _
    unfold lb_Search_hope_6
    rw [s2, if_pos (nI_le (Nat.le_refl _) (by omega))]
    refine ⟨_, rfl, Or.inl ⟨sv, rfl, by rw [show K - i = q by omega] at b1; exact b1, fun c hc => ?_⟩⟩
    have := b2 c (fun t t1 t2 => (CP_flat.mp hc).1 t t1 (by omega))
    rw [show K - i = q by omega] at this
    exact this
theorem lg0 {x : Int64} : (lg_cmp x (0 : Int64) = 0) = (x = 0) := propext (lg_cmp_eq x 0)
theorem beaten_ok {m : Me} {K : Nat} {must : Nat → Bool} {gain : Nat → Nat → Nat} {ban : Nat → Nat → Nat → Nat → Bool} {i r : Nat} {u : Int32} {F B : Int64} (hS : SRm m K must gain ban) (hi : i < K) (hr : r < 17) :
    ∃ b, f_Search_isBeaten (nI i) (nI r) u F B m = some (bI b) ∧ (b = true → ∃ r', r' < r ∧ bb u r' = true ∧ ∀ j s, j < 8 → s < 16 → av F B j s = true → ban i r' j s = true → ban i r j s = true) := by
  obtain ⟨s1, s2, s3, s4, s5⟩ := hS
  unfold f_Search_isBeaten
  rw [bdE, bdE, show nI i * (17 : Int32) = nI (i * 17) from pk_mul i 17, nI_add]
  refine up (fun (f : Int32 → Option Int32) t (_ : Unit) => f (nI (i * 17 + t))) r (fun _ _ => True) (fun x => ∃ b, x = some (bI b) ∧ (b = true → ∃ r', r' < r ∧ bb u r' = true ∧ ∀ j s, j < 8 → s < 16 → av F B j s = true → ban i r' j s = true → ban i r j s = true)) 0 () (by omega) (by unfold FU; omega) trivial ?_ ?_
  · intro f t _ ht _ ih
    show ∃ b, lb_Search_isBeaten_14 (nI i) u F B m (nI (i * 17 + r)) f (nI (i * 17 + t)) = some (bI b) ∧ _
    unfold lb_Search_isBeaten_14
    rw [if_neg (nI_ge (by omega) (by omega)), show nI i * (17 : Int32) = nI (i * 17) from pk_mul i 17, show nI (i * 17 + t) - nI (i * 17) = nI t by rw [pk_sub (by omega)]; congr 1; omega]
    have nx : ∃ b, f (nI (i * 17 + (t + 1))) = some (bI b) ∧ (b = true → ∃ r', r' < r ∧ bb u r' = true ∧ ∀ j s, j < 8 → s < 16 → av F B j s = true → ban i r' j s = true → ban i r j s = true) := ih () trivial
    have e1 : nI (i * 17 + t) + 1 = nI (i * 17 + (t + 1)) := nI_1 _
    have z10 : ¬ (1 : Int32) = 0 := by decide
    simp only [bd, tst (show t < 32 by omega), e1, show ln 103 = 119 from rfl, show ln 104 = 119 from rfl, rd_n (show i * 17 + t < 119 by omega) (show 119 < 2 ^ 31 by decide), rd_n (show i * 17 + r < 119 by omega) (show 119 < 2 ^ 31 by decide), lg0]
    by_cases c : bb u t = true
    · rw [if_pos c, if_neg z10]
      by_cases d1 : m.2 103 (i * 17 + t) &&& (m.2 103 (i * 17 + r) ^^^ (-1 : Int64)) &&& F = 0
      · rw [if_pos d1]
        by_cases d2 : m.2 104 (i * 17 + t) &&& (m.2 104 (i * 17 + r) ^^^ (-1 : Int64)) &&& B = 0
        · rw [if_pos d2]
          refine ⟨true, rfl, fun _ => ⟨t, ht, c, fun j s hj hs hA hb => ?_⟩⟩
          have z : av (m.2 103 (i * 17 + t) &&& (m.2 103 (i * 17 + r) ^^^ (-1 : Int64)) &&& F) (m.2 104 (i * 17 + t) &&& (m.2 104 (i * 17 + r) ^^^ (-1 : Int64)) &&& B) j s = false := by
            rw [d1, d2]; exact av_0 j s
          rw [av_and, av_and, av_not hj hs, s5 i t j s hi (by omega) hj hs, s5 i r j s hi hr hj hs, hA, hb] at z
          cases hx : ban i r j s
          · rw [hx] at z; cases z
          · rfl
        · rw [if_neg d2]; exact nx
      · rw [if_neg d1]; exact nx
    · rw [if_neg c, if_pos trivial]
      exact nx
  · intro f _ _
    show ∃ b, lb_Search_isBeaten_14 (nI i) u F B m (nI (i * 17 + r)) f (nI (i * 17 + r)) = some (bI b) ∧ _
    unfold lb_Search_isBeaten_14
    rw [if_pos (nI_le (Nat.le_refl _) (by omega))]
    exact ⟨false, rfl, fun w => by cases w⟩
theorem CP_put {must : Nat → Bool} {ban : Nat → Nat → Nat → Nat → Bool} {q i r : Nat} {A : Nat → Nat → Bool} {c : Nat → Nat} (h1 : usA must A i r = true) (h2 : CPr must ban q (i + 1) (fun j s => A j s && !(ban i r j s)) c) : CPr must ban (q + 1) i A (fun j => if j = i then r else c j) := by
  have e : (fun j => if j = i then r else c j) i = r := if_pos rfl
  unfold CPr
  rw [e]
  exact ⟨h1, CP_cg (c := c) (fun j hj => (if_neg (by omega)).symm) h2⟩
theorem vl_put {gain : Nat → Nat → Nat} {q i r : Nat} {c : Nat → Nat} : vlr gain (q + 1) i (fun j => if j = i then r else c j) = gain i r + vlr gain q (i + 1) c := by
  have e : (fun j => if j = i then r else c j) i = r := if_pos rfl
  show gain i ((fun j => if j = i then r else c j) i) + vlr gain q (i + 1) (fun j => if j = i then r else c j) = _
  rw [e, ← vl_cg (c := c) (c' := fun j => if j = i then r else c j) (fun j j1 j2 => (if_neg (by omega)).symm)]
def DQ (must : Nat → Bool) (gain : Nat → Nat → Nat) (ban : Nat → Nat → Nat → Nat → Bool) (q i : Nat) (A : Nat → Nat → Bool) (so : Nat) (mo : Int) (go : Nat) (m : Me) (r : Option Me) : Prop :=
  ∃ (m' : Me) (mo' : Int), r = some m' ∧ m'.1 9 8 = iI mo' ∧ mo ≤ mo' ∧ mo' ≤ 2000000 ∧ (mo' = mo ∨ ∃ c, CPr must ban q i A c ∧ mo' = (so : Int) + vlr gain q i c) ∧ (mo' < (go : Int) → ∀ c, CPr must ban q i A c → (so : Int) + vlr gain q i c ≤ mo') ∧ Fm (fun o j => o = 9 ∧ j = 8) m m' ∧ m'.2 = m.2
set_option maxHeartbeats 2000000 in
theorem desc_ok {K : Nat} {must : Nat → Bool} {gain : Nat → Nat → Nat} {ban : Nat → Nat → Nat → Nat → Bool} {Ob : Nat → Nat → Bool} (hG : GM Ob gain) (q : Nat) : ∀ (n i : Nat) (F B : Int64) (so : Nat) (mo : Int) (go : Nat) (m : Me), q < n → i + q = K → SRm m K must gain ban → InO K (av F B) Ob → m.1 9 8 = iI mo → m.1 9 9 = nI go → go < 2 ^ 31 → -1 ≤ mo → mo ≤ 2000000 → so + 200000 * q ≤ 1400000 →
    DQ must gain ban q i (av F B) so mo go m (f_Search_descend n (nI i) F B (nI so) m) := by
  induction q with
  | zero =>
    intro n i F B so mo go m hn hi hS hA h8 h9 hgo m1 m2 hso
    obtain ⟨n, rfl⟩ : ∃ k, n = k + 1 := ⟨n - 1, by omega⟩
    show DQ must gain ban 0 i (av F B) so mo go m (fb_Search_descend (f_Search_descend n) (nI i) F B (nI so) m)
    unfold fb_Search_descend
    have k7 := hS.1
    rw [hS.2.1, if_neg (nI_nlt (by omega) (by omega)), bdE, h8, nI_i so, mx_i (by omega) (by omega) (by omega) (by omega)]
    refine ⟨_, (if mo < (so : Int) then (so : Int) else mo), rfl, si_s, by split <;> omega, by split <;> omega, ?_, ?_, Fm.wr ⟨rfl, rfl⟩, rfl⟩
    · split
      · exact Or.inr ⟨fun _ => 0, trivial, by show _ = (so : Int) + ((0 : Nat) : Int); omega⟩
      · exact Or.inl rfl
    · intro _ c _
      show (so : Int) + ((0 : Nat) : Int) ≤ _
      split <;> omega
  | succ q IH =>
    intro n i F B so mo go m hn hi hS hA h8 h9 hgo m1 m2 hso
    obtain ⟨n, rfl⟩ : ∃ k, n = k + 1 := ⟨n - 1, by omega⟩
    show DQ must gain ban (q + 1) i (av F B) so mo go m (fb_Search_descend (f_Search_descend n) (nI i) F B (nI so) m)
    unfold fb_Search_descend
    have k7 := hS.1
    have iK : i < K := by omega
    obtain ⟨h, eh, hh⟩ := hope_ok hS hG hA hi
    obtain ⟨g1, g2, g3⟩ := id hG
    have none' : (∀ c, CPr must ban (q + 1) i (av F B) c → (so : Int) + vlr gain (q + 1) i c ≤ mo) → DQ must gain ban (q + 1) i (av F B) so mo go m (some m) := fun w => ⟨m, mo, rfl, h8, Int.le_refl _, m2, Or.inl rfl, fun _ => w, Fm.rf, rfl⟩
    rw [hS.2.1, if_pos (nI_lt iK (by omega)), eh, cP_s, h8]
    obtain ⟨u, eu, u1, u2⟩ := bitsOf_eq (i := i) (F := F) (B := B) (m := m) (by omega)
    by_cases hp : iI mo < nI so + h
    · rw [if_pos hp, eu, cP_s, show ln 101 = 7 from rfl, rd_n (by omega) (by omega), hS.2.2.1 i iK]
      obtain ⟨us, eus, us1⟩ : ∃ us : Int32, (us = (u ||| (if bI (must i) = 0 then (65536 : Int32) else 0))) ∧ ∀ r, r < 17 → bb us r = usA must (av F B) i r := by
        refine ⟨_, rfl, fun r hr => ?_⟩
        unfold usA
        rw [bb_or]
        simp only [bI_z]
        by_cases w : r < 16
        · rw [if_pos w, u1 r w]
          have : bb (if must i = false then (65536 : Int32) else 0) r = false := by
            cases must i
            · rw [if_pos rfl, show (65536 : Int32) = nI (2 ^ 16) from rfl, bb_nI (by decide), Nat.testBit_two_pow]
              simp; omega
            · rw [if_neg (by decide), bb_0]
          rw [this, Bool.or_false]
        · have r16 : r = 16 := by omega
          subst r16
          rw [if_neg w, u2 16 (by omega), Bool.false_or]
          cases must i
          · rw [if_pos rfl, show (65536 : Int32) = nI (2 ^ 16) from rfl, bb_nI (by decide), Nat.testBit_two_pow]
            rfl
          · rw [if_neg (by decide), bb_0]
            rfl
      have loop : DQ must gain ban (q + 1) i (av F B) so mo go m ((fx (lb_Search_descend_69 (nI i) F B (nI so) (f_Search_descend n) us) (fun _ _ => none) FU) 0 m) := by
        refine up aM 17 (fun r m' => ∃ mr : Int, m'.1 9 8 = iI mr ∧ mo ≤ mr ∧ mr ≤ 2000000 ∧ (mr = mo ∨ ∃ c, CPr must ban (q + 1) i (av F B) c ∧ mr = (so : Int) + vlr gain (q + 1) i c) ∧ (mr < (go : Int) → ∀ c, CPr must ban (q + 1) i (av F B) c → c i < r → (so : Int) + vlr gain (q + 1) i c ≤ mr) ∧ Fm (fun o j => o = 9 ∧ j = 8) m m' ∧ m'.2 = m.2) (DQ must gain ban (q + 1) i (av F B) so mo go m) 0 m (by omega) (by unfold FU; omega) ⟨mo, h8, Int.le_refl _, m2, Or.inl rfl, fun _ c _ w => by omega, Fm.rf, rfl⟩ ?_ ?_
        · rintro f r m' hr ⟨mr, p1, p2, p3, p4, p5, p6, p7⟩ ih
          show DQ must gain ban (q + 1) i (av F B) so mo go m (lb_Search_descend_69 (nI i) F B (nI so) (f_Search_descend n) us f (nI r) m')
          unfold lb_Search_descend_69
          have S' : SRm m' K must gain ban := hS.fr (p6.mo (fun o j w => ⟨w.1, Or.inl w.2⟩)) (fun o _ => by rw [p7])
          have q9 : m'.1 9 9 = nI go := by rw [p6 _ _ (by omega)]; exact h9
          rw [if_neg (show ¬ (17 : Int32) ≤ nI r from nI_ge (b := 17) hr (by decide)), q9, p1, nI_i go]
          simp only [iI_le (a := (go : Int)) (b := mr) (by omega) (by omega) (by omega) (by omega)]
          by_cases gz : (go : Int) ≤ mr
          · rw [if_pos gz]
            exact ⟨m', mr, rfl, p1, p2, p3, p4, fun w => by omega, p6, p7⟩
          · rw [if_neg gz]
            simp only [bd, tst (show r < 32 by omega), nI_1, show nI i * (17 : Int32) = nI (i * 17) from pk_mul i 17, nI_add]
            have skip : (∀ c, CPr must ban (q + 1) i (av F B) c → c i = r → (so : Int) + vlr gain (q + 1) i c ≤ mr) → DQ must gain ban (q + 1) i (av F B) so mo go m (f (nI (r + 1)) m') := by
              intro w
              refine ih m' ⟨mr, p1, p2, p3, p4, fun z c hc hl => ?_, p6, p7⟩
              by_cases e : c i = r
              · exact w c hc e
              · exact p5 z c hc (by omega)
            by_cases c1 : bb us r = true
            · rw [if_pos c1]
              obtain ⟨b, eb, hb⟩ := beaten_ok (u := us) (F := F) (B := B) S' iK hr
              rw [eb, cP_s]
              simp only [bI_z]
              have ur : usA must (av F B) i r = true := by rw [← us1 r hr]; exact c1
              cases hbb : b with
              | true =>
                rw [if_neg (by decide)]
                obtain ⟨r', r1, r2, r3⟩ := hb hbb
                refine skip (fun c hc ec => ?_)
                have ur' : usA must (av F B) i r' = true := by rw [← us1 r' (by omega)]; exact r2
                have hc' : CPr must ban (q + 1) i (av F B) (fun j => if j = i then r' else c j) := by
                  obtain ⟨k1, k2⟩ := hc
                  refine CP_put ur' (CP_mo (fun j s j1 j2 hs w => ?_) k2)
                  rw [ec] at w
                  rw [Bool.and_eq_true] at w ⊢
                  refine ⟨w.1, ?_⟩
                  cases hx : ban i r' j s
                  · rfl
                  · have := r3 j s (by omega) hs w.1 hx
                    rw [this] at w
                    cases w.2
                have v1 := p5 (by omega) _ hc' (by show (if i = i then r' else c i) < r; rw [if_pos rfl]; exact r1)
                have v2 : vlr gain (q + 1) i c ≤ vlr gain (q + 1) i (fun j => if j = i then r' else c j) := by
                  rw [vl_put]
                  show gain i (c i) + vlr gain q (i + 1) c ≤ gain i r' + vlr gain q (i + 1) c
                  rw [ec]
                  have o' : Ob i r' = true := by
                    unfold usA at ur'
                    rw [if_pos (show r' < 16 by omega)] at ur'
                    exact hA i r' iK (by omega) ur'
                  have := g3 i r' r r1 (by omega) o' (fun z => by
                    unfold usA at ur
                    rw [if_pos z] at ur
                    exact hA i r iK z ur)
                  omega
                omega
              | false =>
                rw [if_pos rfl, show ln 103 = 119 from rfl, show ln 104 = 119 from rfl, show ln 102 = 119 from rfl, rd_n (by omega) (by omega), rd_n (by omega) (by omega), rd_n (by omega) (by omega), S'.2.2.2.1 i r iK (by omega), nI_add]
                have eA : ∀ j s, j < 8 → s < 16 → av (F &&& (m'.2 103 (i * 17 + r) ^^^ (-1 : Int64))) (B &&& (m'.2 104 (i * 17 + r) ^^^ (-1 : Int64))) j s = (av F B j s && !(ban i r j s)) := fun j s hj hs => by
                  rw [av_and, av_not hj hs, S'.2.2.2.2 i r j s iK (by omega) hj hs]
                have gr := g1 i r
                have R := IH n (i + 1) (F &&& (m'.2 103 (i * 17 + r) ^^^ (-1 : Int64))) (B &&& (m'.2 104 (i * 17 + r) ^^^ (-1 : Int64))) (so + gain i r) mr go m' (by omega) (by omega) S' (fun j s hj hs w => by
                  rw [eA j s (by omega) hs, Bool.and_eq_true] at w
                  exact hA j s hj hs w.1) p1 q9 hgo (by omega) p3 (by omega)
                obtain ⟨m'', mo'', e2, t1, t2, t3, t4, t5, t6, t7⟩ := R
                rw [e2, cP_s]
                have toI : ∀ c, c i = r → CPr must ban (q + 1) i (av F B) c → CPr must ban q (i + 1) (av (F &&& (m'.2 103 (i * 17 + r) ^^^ (-1 : Int64))) (B &&& (m'.2 104 (i * 17 + r) ^^^ (-1 : Int64)))) c := by
                  rintro c ec ⟨-, k2⟩
                  rw [ec] at k2
                  exact CP_mo (fun j s j1 j2 hs w => by rw [eA j s (by omega) hs]; exact w) k2
                refine ih m'' ⟨mo'', t1, by omega, t3, ?_, fun z c hc hl => ?_, p6.tr t6, t7.trans p7⟩
                · rcases t4 with w | ⟨c, hc, ec⟩
                  · rcases p4 with w2 | ⟨c, hc, ec⟩
                    · exact Or.inl (by omega)
                    · exact Or.inr ⟨c, hc, by omega⟩
                  · right
                    refine ⟨fun j => if j = i then r else c j, CP_put ur (CP_mo (fun j s j1 j2 hs w => ?_) hc), ?_⟩
                    · rw [eA j s (by omega) hs] at w
                      exact w
                    · rw [ec, vl_put]
                      omega
                · by_cases e : c i = r
                  · have := t5 z c (toI c e hc)
                    show (so : Int) + ((gain i (c i) + vlr gain q (i + 1) c : Nat) : Int) ≤ mo''
                    rw [e]
                    omega
                  · have := p5 (by omega) c hc (by omega)
                    omega
            · rw [if_neg c1]
              refine skip (fun c hc ec => ?_)
              have := hc.1
              rw [ec, ← us1 r hr] at this
              exact absurd this c1
        · rintro f m' ⟨mr, p1, p2, p3, p4, p5, p6, p7⟩
          show DQ must gain ban (q + 1) i (av F B) so mo go m (lb_Search_descend_69 (nI i) F B (nI so) (f_Search_descend n) us f (nI 17) m')
          unfold lb_Search_descend_69
          rw [if_pos (show (17 : Int32) ≤ nI 17 by decide)]
          exact ⟨m', mr, rfl, p1, p2, p3, p4, fun w c hc => p5 w c hc (by have := us_le hc.1; omega), p6, p7⟩
      rw [eus] at loop
      simp only [bd]
      by_cases bm : bI (must i) = 0
      · rw [if_pos bm] at loop ⊢
        exact loop
      · rw [if_neg bm] at loop ⊢
        exact loop
    · rw [if_neg hp]
      refine none' (fun c hc => ?_)
      rcases hh with ⟨hv, rfl, v1, v2⟩ | ⟨rfl, v2⟩
      · have := v2 c hc
        rw [nI_add, nI_i, b_lt (by omega) (by omega) (by omega) (by omega)] at hp
        omega
      · exact absurd hc (v2 c)
