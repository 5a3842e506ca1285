/-! PURE PART: the quick setting -/
noncomputable def gqS (n d : Nat) (a : Ch) : Nat → Nat → Nat
  | 0 => fun _ => 16
  | i + 1 => fun o => if o = qS a n i then chS n d a (gqS n d a i) (qS a n i) else gqS n d a i o
theorem gq_gs (n d : Nat) (a : Ch) (i : Nat) : GS n a (gqS n d a i) := by
  induction i with
  | zero => exact fun k _ => Or.inl rfl
  | succ i ih =>
    intro o ho
    have e : gqS n d a (i + 1) o = if o = qS a n i then chS n d a (gqS n d a i) (qS a n i) else gqS n d a i o := rfl
    rw [e]
    by_cases q : o = qS a n i
    · rw [if_pos q, ← q]; exact chS_lt
    · rw [if_neg q]; exact ih o ho
theorem gq_fix {n d : Nat} {a : Ch} {j i : Nat} (hj : j < n) (h1 : j + 1 ≤ i) (h2 : i ≤ n) : gqS n d a i (qS a n j) = gqS n d a (j + 1) (qS a n j) := by
  induction i with
  | zero => omega
  | succ i ih =>
    by_cases q : j = i
    · rw [q]
    · have e : gqS n d a (i + 1) (qS a n j) = if qS a n j = qS a n i then chS n d a (gqS n d a i) (qS a n i) else gqS n d a i (qS a n j) := rfl
      rw [e, if_neg (fun w => q (qS_inj hj (by omega) w)), ih (by omega) (by omega)]
theorem cnt_ins {f : Nat → Bool} {L : Nat → Nat} {x p y : Nat} (h : p ≤ y) : cnt (fun j => f (insS L x p j)) (y + 1) = cnt (fun j => f (L j)) y + (if f x = true then 1 else 0) := by
  induction y with
  | zero =>
    have : p = 0 := by omega
    subst this
    rfl
  | succ y ih =>
    by_cases q : p = y + 1
    · have e1 : cnt (fun j => f (insS L x p j)) (y + 1 + 1) = cnt (fun j => f (insS L x p j)) (y + 1) + (if f (insS L x p (y + 1)) = true then 1 else 0) := rfl
      rw [e1]
      congr 1
      · refine cnt_cg (fun i hi => ?_)
        unfold insS
        rw [if_pos (by omega)]
      · rw [show insS L x p (y + 1) = x by unfold insS; rw [if_neg (by omega), if_pos q.symm]]
    · have e1 : cnt (fun j => f (insS L x p j)) (y + 1 + 1) = cnt (fun j => f (insS L x p j)) (y + 1) + (if f (insS L x p (y + 1)) = true then 1 else 0) := rfl
      have e2 : cnt (fun j => f (L j)) (y + 1) = cnt (fun j => f (L j)) y + (if f (L y) = true then 1 else 0) := rfl
      rw [e1, ih (by omega), e2, show insS L x p (y + 1) = L y by unfold insS; rw [if_neg (by omega), if_neg (by omega)]; rfl]
      omega
theorem cnt_q (f : Nat → Bool) (a : Ch) (x : Nat) : cnt (fun j => f (qS a x j)) x = cnt f x := by
  induction x with
  | zero => rfl
  | succ x ih =>
    show cnt (fun j => f (insS (qS a x) x (pS (fun t => ahB a x (qS a x t)) x) j)) (x + 1) = cnt f x + (if f x = true then 1 else 0)
    rw [cnt_ins (pS_le _ x), ih]
theorem left_eq {m : Me} {n d : Nat} {a : Ch} (hV : VV n d a) (hC : CC m 10 n d a) : f_NC_leftInHand m = some (nI (cnt (fun k => decide (a 7 k = 16)) n)) := by
  have h24 := hV.1
  unfold f_NC_leftInHand
  refine up aV n (fun k s => s = nI (cnt (fun k => decide (a 7 k = 16)) k)) (fun r => r = some (nI (cnt (fun k => decide (a 7 k = 16)) n))) 0 0 (by omega) (by unfold FU; omega) rfl ?_ ?_
  · intro f k s hk hs ih
    have hs : s = nI (cnt (fun k => decide (a 7 k = 16)) k) := hs
    subst hs
    show lb_NC_leftInHand_4 m f _ (nI k) = _
    unfold lb_NC_leftInHand_4
    have es : cnt (fun k => decide (a 7 k = 16)) (k + 1) = cnt (fun k => decide (a 7 k = 16)) k + (if decide (a 7 k = 16) = true then 1 else 0) := rfl
    rw [hC.1, if_neg (nI_ge hk (by omega)), show ln 17 = 24 from rfl, rd_n (by omega) (by omega), show m.1 17 k = hI (a 7 k) from hC.2.2.2.1 k hk]
    simp only [bd, nI_1, hI_n1 (a7_le hV hk)]
    by_cases c : a 7 k = 16
    · rw [if_pos c, show f_NC_yes (1 : Int32) m = some 1 from rfl]
      simp only [cP_s]
      rw [if_pos (by simp [c])] at es
      exact ih _ (by rw [es]; exact nI_add _ 1)
    · rw [if_neg c, show f_NC_yes (0 : Int32) m = some 0 from rfl]
      simp only [cP_s]
      rw [if_neg (by simp [c])] at es
      exact ih _ (by rw [es]; exact nI_add _ 0)
  · intro f s hs
    have hs : s = nI (cnt (fun k => decide (a 7 k = 16)) n) := hs
    subst hs
    show lb_NC_leftInHand_4 m f _ (nI n) = _
    unfold lb_NC_leftInHand_4
    rw [hC.1, if_pos (nI_le (Nat.le_refl _) (by omega))]
theorem quickC {m : Me} {n d : Nat} {a : Ch} {K : Me → Option (Int32 × Me)} {Q : Option (Int32 × Me) → Prop} (hV : VV n d a) (hC : CC m 10 n d a) (hL : LK m n d a) (hq : ∀ j, j < n → m.1 110 j = nI (qS a n j)) (hg : ∀ k, k < n → m.1 109 k = hI 16)
    (hK : ∀ m', (∀ k, k < n → m'.1 109 k = hI (gqS n d a n k)) → Fm (fun o _ => o = 109) m m' → Q (K m')) : Q ((fx (lb_NC_quick_25 K) (fun _ _ => none) FU) 0 m) := by
  have h24 := hV.1
  refine up aM n (fun i m' => (∀ k, k < n → m'.1 109 k = hI (gqS n d a i k)) ∧ Fm (fun o _ => o = 109) m m') Q 0 m (by omega) (by unfold FU; omega) ⟨hg, Fm.rf⟩ ?_ ?_
  · rintro f i m1 hi ⟨a1, f1⟩ ih
    show Q (lb_NC_quick_25 K f (nI i) m1)
    unfold lb_NC_quick_25
    have C1 := hC.fr f1 (fun o j _ _ => by omega)
    have L1 := hL.fr hV f1 (fun o j _ => by omega)
    have lq := qS_lt (a := a) hi
    rw [C1.1, if_neg (nI_ge hi (by omega)), show ln 110 = 24 from rfl, rd_n (by omega) (by omega), f1 110 i (by omega), hq i hi, cheap_eq (o := 109) hV C1 L1 rfl (gq_gs n d a i) a1 lq]
    simp only [cP_s]
    rw [show ln 109 = 24 from rfl, wi_n (by omega) (by omega)]
    simp only [bd, nI_1]
    refine ih _ ⟨fun k hk => ?_, f1.wr' rfl⟩
    have e : gqS n d a (i + 1) k = if k = qS a n i then chS n d a (gqS n d a i) (qS a n i) else gqS n d a i k := rfl
    rw [e, si1]
    by_cases q : k = qS a n i
    · rw [if_pos q, if_pos ⟨rfl, q⟩]
    · rw [if_neg q, if_neg (by omega)]; exact a1 k hk
  · rintro f m1 ⟨a1, f1⟩
    show Q (lb_NC_quick_25 K f (nI n) m1)
    unfold lb_NC_quick_25
    rw [(hC.fr f1 (fun o j _ _ => by omega)).1, if_pos (nI_le (Nat.le_refl _) (by omega))]
    exact hK m1 a1 f1
theorem hi7 (a : Ch) (g : Nat → Nat) : hiB (up7 a g) g = hiB a g := by
  funext i w k
  unfold hiB
  rw [cl7]
theorem ok7 (n d : Nat) (a : Ch) (g : Nat → Nat) : okC n d (up7 a g) g = okC n d a g := by
  funext i v
  unfold okC
  rw [ow7, hi7]
theorem quick63 {m : Me} {n d : Nat} {a : Ch} {k : Nat} {K : Int32 → Me → Option (Int32 × Me)} {Q : Option (Int32 × Me) → Prop} (hV : VV n d a) (hM : MM m n d a) (hk : k < n)
    (hK : ∀ m', Fm SD m m' → Q (K (nI (chS n d a (a 7) k)) m')) : Q ((fx (lb_Mo_quick_63 (nI k) K) (fun _ _ _ => none) FU) (nI 16) 0 m) := by
  have h24 := hV.1
  have w16 := waysS_le (a := a) (i := k)
  refine up aVM (waysS a k) (fun v s => s.1 = nI (chF (okC n d a (a 7) k) (prS a k) v) ∧ Fm SD m s.2) Q 0 (nI 16, m) (by omega) (by unfold FU; omega) ⟨rfl, Fm.rf⟩ ?_ ?_
  · rintro f v ⟨s, m1⟩ hv ⟨hs, f1⟩ ih
    have hs : s = nI (chF (okC n d a (a 7) k) (prS a k) v) := hs
    have f1 : Fm SD m m1 := f1
    have ec : chF (okC n d a (a 7) k) (prS a k) (v + 1) = if okC n d a (a 7) k v = true ∧ (chF (okC n d a (a 7) k) (prS a k) v = 16 ∨ prS a k v < prS a k (chF (okC n d a (a 7) k) (prS a k) v)) then v else chF (okC n d a (a 7) k) (prS a k) v := rfl
    have cl : chF (okC n d a (a 7) k) (prS a k) v = 16 ∨ chF (okC n d a (a 7) k) (prS a k) v < v := by
      rcases chF_ch (ok := okC n d a (a 7) k) (pr := prS a k) (show v ≤ 16 by omega) with ⟨g1, -⟩ | ⟨g1, -⟩
      · exact Or.inl g1
      · exact Or.inr g1
    have ih' : ∀ w m2, w = chF (okC n d a (a 7) k) (prS a k) (v + 1) → Fm SD m m2 → Q (f (nI w) (nI (v + 1)) m2) := fun w m2 hw f2 => ih (nI w, m2) ⟨by rw [hw], f2⟩
    show Q (lb_Mo_quick_63 (nI k) K f s (nI v) m1)
    unfold lb_Mo_quick_63
    rw [hs]
    generalize chF (okC n d a (a 7) k) (prS a k) v = c at *
    have M1 := hM.fD f1
    rw [moWays_eq hV M1 hk]
    simp only [cP_s]
    rw [if_neg (nI_ge hv (by omega))]
    simp only [bd, nI_1]
    have p1 := prS_le (a := a) (i := k) (show v < 16 by omega)
    have z10 : ¬ (1 : Int32) = 0 := by decide
    have eo : owB n d a k v = opB n d a k v 0 := by unfold owB; simp [hv]
    have tryV : (c = 16 ∨ prS a k v < prS a k c) → Q (cI (f_Mo_isOpen (nI k) (nI v) (0 : Int32) m1) (fun v24 m25 => if v24 = 0 then f (nI c) (nI (v + 1)) m25 else cI (f_Mo_clashInHand (nI k) (nI v) m25) (fun v26 m27 => if v26 = (-1 : Int32) then f (nI v) (nI (v + 1)) m27 else f (nI c) (nI (v + 1)) m27))) := by
      intro hc
      obtain ⟨m2, e2, f2⟩ := moOpen_eq (w := v) (z := 0) hV M1 hk (by omega) (by omega)
      rw [show f_Mo_isOpen (nI k) (nI v) 0 m1 = _ from e2]
      simp only [cI_s, bI_z]
      cases ho : opB n d a k v 0 with
      | false =>
        rw [if_pos rfl]
        refine ih' c m2 ?_ (f1.tr f2)
        rw [ec, if_neg]
        rintro ⟨w, -⟩
        unfold okC at w
        rw [eo, ho] at w
        cases w
      | true =>
        rw [if_neg (by decide)]
        obtain ⟨m3, e3, f3⟩ := clashIn_eq hV (M1.fD f2) hk hv
        rw [e3]
        simp only [cI_s, ls_any (show n < 2 ^ 31 by omega)]
        cases h2 : anyB (hiB a (a 7) k v) n with
        | true =>
          rw [if_neg (by decide)]
          refine ih' c m3 ?_ ((f1.tr f2).tr f3)
          rw [ec, if_neg]
          rintro ⟨w, -⟩
          unfold okC at w
          rw [h2] at w
          simp at w
        | false =>
          rw [if_pos rfl]
          refine ih' v m3 ?_ ((f1.tr f2).tr f3)
          rw [ec, if_pos ⟨by unfold okC; rw [eo, ho, h2]; rfl, hc⟩]
    by_cases c16 : c = 16
    · rw [c16, if_pos (show nI 16 = (16 : Int32) from rfl), if_neg z10, ← c16]
      exact tryV (Or.inl c16)
    · have cv : c < v := cl.resolve_left c16
      have p2 := prS_le (a := a) (i := k) (show c < 16 by omega)
      rw [if_neg (show ¬ nI c = (16 : Int32) from nI_ne (b := 16) (by omega) (by decide) c16), moPrice_eq hV M1 hk (by omega)]
      simp only [cP_s]
      rw [moPrice_eq hV M1 hk (by omega)]
      simp only [cP_s]
      by_cases hp : prS a k v < prS a k c
      · rw [if_neg (nI_ge hp (by omega)), if_neg z10]
        exact tryV (Or.inr hp)
      · rw [if_pos (nI_le (by omega) (by omega)), if_pos trivial]
        refine ih' c m1 ?_ f1
        rw [ec, if_neg]
        rintro ⟨-, w⟩
        omega
  · rintro f ⟨s, m1⟩ ⟨hs, f1⟩
    have hs : s = nI (chF (okC n d a (a 7) k) (prS a k) (waysS a k)) := hs
    have f1 : Fm SD m m1 := f1
    show Q (lb_Mo_quick_63 (nI k) K f s (nI (waysS a k)) m1)
    unfold lb_Mo_quick_63
    rw [moWays_eq hV (hM.fD f1) hk]
    simp only [cP_s]
    rw [if_pos (nI_le (Nat.le_refl _) (by omega)), hs]
    exact hK m1 f1
def SQ (o j : Nat) : Prop := SD o j ∨ o = 207
theorem chS7 (n d : Nat) (a : Ch) (g : Nat → Nat) (i : Nat) : chS n d (up7 a g) g i = chS n d a g i := by
  unfold chS
  rw [ok7]
  rfl
theorem quick41 {m : Me} {n d : Nat} {a : Ch} (hV : VV n d a) (hM : MM m n d (up7 a (fun _ => 16))) (hq : ∀ j, j < n → m.1 220 j = nI (qS a n j)) :
    ∃ m', (fx lb_Mo_quick_41 (fun _ _ _ => none) FU) 0 0 m = some (nI (cnt (fun k => decide (gqS n d a n k = 16)) n), m') ∧ (∀ k, k < n → m'.1 207 k = nI (gqS n d a n k)) ∧ Fm SQ m m' := by
  have h24 := hV.1
  have key : cnt (fun k => decide (gqS n d a n k = 16)) n = cnt (fun j => decide (gqS n d a (j + 1) (qS a n j) = 16)) n := by
    rw [← cnt_q (fun k => decide (gqS n d a n k = 16)) a n]
    exact cnt_cg (fun j hj => by rw [gq_fix hj (by omega) (Nat.le_refl _)])
  rw [key]
  refine up aVM n (fun i s => s.1 = nI (cnt (fun j => decide (gqS n d a (j + 1) (qS a n j) = 16)) i) ∧ MM s.2 n d (up7 a (gqS n d a i)) ∧ Fm SQ m s.2) (fun r => ∃ m', r = some (nI (cnt (fun j => decide (gqS n d a (j + 1) (qS a n j) = 16)) n), m') ∧ (∀ k, k < n → m'.1 207 k = nI (gqS n d a n k)) ∧ Fm SQ m m') 0 (0, m) (by omega) (by unfold FU; omega) ⟨rfl, hM, Fm.rf⟩ ?_ ?_
  · rintro f i ⟨s, m1⟩ hi ⟨hs, M1, f1⟩ ih
    have hs : s = nI (cnt (fun j => decide (gqS n d a (j + 1) (qS a n j) = 16)) i) := hs
    have M1 : MM m1 n d (up7 a (gqS n d a i)) := M1
    have f1 : Fm SQ m m1 := f1
    subst hs
    show ∃ m', lb_Mo_quick_41 f _ (nI i) m1 = some (_, m') ∧ _
    unfold lb_Mo_quick_41
    have lq := qS_lt (a := a) hi
    have V1 : VV n d (up7 a (gqS n d a i)) := VV7 hV (gq_gs n d a i)
    have es : cnt (fun j => decide (gqS n d a (j + 1) (qS a n j) = 16)) (i + 1) = cnt (fun j => decide (gqS n d a (j + 1) (qS a n j) = 16)) i + (if decide (gqS n d a (i + 1) (qS a n i) = 16) = true then 1 else 0) := rfl
    have eg : ∀ o, gqS n d a (i + 1) o = if o = qS a n i then chS n d a (gqS n d a i) (qS a n i) else gqS n d a i o := fun o => rfl
    have q1 : m1.1 220 i = nI (qS a n i) := by rw [f1 _ _ (by unfold SQ SD; omega)]; exact hq i hi
    rw [M1.1, if_neg (nI_ge hi (by omega)), show ln 220 = 24 from rfl, rd_n (by omega) (by omega), q1, bdE]
    refine quick63 (a := up7 a (gqS n d a i)) (k := qS a n i) (Q := fun r => ∃ m', r = some (nI (cnt (fun j => decide (gqS n d a (j + 1) (qS a n j) = 16)) n), m') ∧ (∀ k, k < n → m'.1 207 k = nI (gqS n d a n k)) ∧ Fm SQ m m') V1 M1 lq (fun m2 f2 => ?_)
    rw [show chS n d (up7 a (gqS n d a i)) (up7 a (gqS n d a i) 7) (qS a n i) = gqS n d a (i + 1) (qS a n i) by rw [eg, if_pos rfl]; exact chS7 n d a (gqS n d a i) (qS a n i)]
    have w16 := waysS_le (a := a) (i := qS a n i)
    have gl := gq_gs n d a (i + 1) (qS a n i) lq
    simp only [bd, nI_1]
    rw [show ln 207 = 24 from rfl, wi_n (by omega) (by omega)]
    have f3 : Fm SQ m (si m2 207 (qS a n i) (nI (gqS n d a (i + 1) (qS a n i)))) := (f1.tr (f2.mo (fun o j q => Or.inl q))).wr' (by unfold SQ; omega)
    have M3 : MM (si m2 207 (qS a n i) (nI (gqS n d a (i + 1) (qS a n i)))) n d (up7 a (gqS n d a (i + 1))) := by
      have M2 := M1.fD f2
      refine ⟨by rw [si1, if_neg (by omega)]; exact M2.1, by rw [si1, if_neg (by omega)]; exact M2.2.1, fun k j k1 k2 hj => ?_, fun j hj => ?_⟩
      · rw [si1]
        by_cases k7 : k = 7
        · subst k7
          show _ = nI (gqS n d a (i + 1) j)
          by_cases q : j = qS a n i
          · rw [if_pos ⟨rfl, q⟩, q]
          · rw [if_neg (by omega), eg, if_neg q]
            exact M2.2.2.1 7 j (by omega) (by omega) hj
        · rw [if_neg (by omega), show up7 a (gqS n d a (i + 1)) k = a k by unfold up7; rw [if_neg k7]]
          have := M2.2.2.1 k j k1 k2 hj
          rw [show up7 a (gqS n d a i) k = a k by unfold up7; rw [if_neg k7]] at this
          exact this
      · rw [si1, if_neg (by omega), si1, if_neg (by omega)]
        exact M2.2.2.2 j hj
    by_cases c : gqS n d a (i + 1) (qS a n i) = 16
    · rw [if_pos (by simp [c])] at es
      rw [if_pos (show nI (gqS n d a (i + 1) (qS a n i)) = (16 : Int32) by rw [c]; rfl)]
      exact ih (_, _) ⟨by rw [es]; rfl, M3, f3⟩
    · rw [if_neg (by simp [c])] at es
      rw [if_neg (show ¬ nI (gqS n d a (i + 1) (qS a n i)) = (16 : Int32) from nI_ne (b := 16) (by omega) (by decide) c)]
      exact ih (_, _) ⟨by rw [es]; exact nI_add _ 0, M3, f3⟩
  · rintro f ⟨s, m1⟩ ⟨hs, M1, f1⟩
    have hs : s = nI (cnt (fun j => decide (gqS n d a (j + 1) (qS a n j) = 16)) n) := hs
    have M1 : MM m1 n d (up7 a (gqS n d a n)) := M1
    have f1 : Fm SQ m m1 := f1
    subst hs
    show ∃ m', lb_Mo_quick_41 f _ (nI n) m1 = some (_, m') ∧ _
    unfold lb_Mo_quick_41
    rw [M1.1, if_pos (nI_le (Nat.le_refl _) (by omega))]
    exact ⟨m1, rfl, fun k hk => M1.2.2.1 7 k (by omega) (by omega) hk, f1⟩
theorem quick17 {m : Me} {n d : Nat} {a : Ch} {K : Me → Option (Int32 × Me)} {Q : Option (Int32 × Me) → Prop} (hV : VV n d a) (hM : MM m n d a)
    (hK : ∀ m', MM m' n d (up7 a (fun _ => 16)) → Fm (fun o _ => o = 207) m m' → Q (K m')) : Q ((fx (lb_Mo_quick_17 K) (fun _ _ => none) FU) 0 m) := by
  have h24 := hV.1
  refine up aM n (fun k m' => (∀ j, j < k → m'.1 207 j = nI 16) ∧ Fm (fun o _ => o = 207) m m') Q 0 m (by omega) (by unfold FU; omega) ⟨fun j hj => by omega, Fm.rf⟩ ?_ ?_
  · rintro f k m1 hk ⟨a1, f1⟩ ih
    show Q (lb_Mo_quick_17 K f (nI k) m1)
    unfold lb_Mo_quick_17
    rw [f1 200 1 (by omega), hM.1, if_neg (nI_ge hk (by omega)), show ln 207 = 24 from rfl, wi_n (by omega) (by omega)]
    simp only [bd, nI_1]
    refine ih _ ⟨fun j hj => ?_, f1.wr' rfl⟩
    rw [si1]
    by_cases q : j = k
    · rw [if_pos ⟨rfl, q⟩]; rfl
    · rw [if_neg (by omega)]; exact a1 j (by omega)
  · rintro f m1 ⟨a1, f1⟩
    show Q (lb_Mo_quick_17 K f (nI n) m1)
    unfold lb_Mo_quick_17
    rw [f1 200 1 (by omega), hM.1, if_pos (nI_le (Nat.le_refl _) (by omega))]
    exact hK m1 (MM7 hM f1 (by omega) (by omega) (fun o j _ _ q => q) a1) f1
