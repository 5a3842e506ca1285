/-! PURE PART: questions of what is in hand -/
noncomputable def hiB (a : Ch) (g : Nat → Nat) (i w k : Nat) : Bool := decide (k ≠ i) && (decide (g k ≠ 16) && clB a i w k (g k) 0)
def GS (n : Nat) (a : Ch) (g : Nat → Nat) : Prop := ∀ k, k < n → g k = 16 ∨ g k < waysS a k
theorem VV.gs {n d : Nat} {a : Ch} (hV : VV n d a) : GS n a (a 7) := fun k hk => (hV.2.2.1 k hk).2
theorem firstHit_eq {m : Me} {n d : Nat} {a : Ch} {g : Nat → Nat} {i w o : Nat} (hV : VV n d a) (h0 : m.1 10 0 = nI n) (hL : LK m n d a) (ho : ln o = 24) (hG : GS n a g) (hg : ∀ k, k < n → m.1 o k = hI (g k)) (hi : i < n) (hw : w < waysS a i) :
    f_NC_firstHit (nI i) (nI w) o m = some (lsI (hiB a g i w) n) := by
  have h24 := hV.1
  have w16 := waysS_le (a := a) (i := i)
  unfold f_NC_firstHit
  rw [boxOf_eq (by omega) (by omega)]
  simp only [cP]
  refine up aU n (fun k _ => lsF (hiB a g i w) (n - k) k = lsI (hiB a g i w) n) (fun r => r = some (lsI (hiB a g i w) n)) 0 () (by omega) (by unfold FU; omega) rfl ?_ ?_
  · intro f k _ hk hI' ih
    show lb_NC_firstHit_14 (nI i) o m (bx i w) f (nI k) = _
    unfold lb_NC_firstHit_14
    have w16' := waysS_le (a := a) (i := k)
    rw [lsF_st hk] at hI'
    rw [h0, if_neg (nI_ge hk (by omega))]
    simp only [bd, nI_1, ho, rd_n (show k < 24 by omega) (show 24 < 2 ^ 31 by decide), hg k hk]
    have nx : hiB a g i w k = false → f (nI (k + 1)) = some (lsI (hiB a g i w) n) := by
      intro hf
      rw [hf, if_neg (by decide)] at hI'
      exact ih () hI'
    by_cases q : k = i
    · subst q
      rw [if_pos rfl]
      exact nx (by unfold hiB; simp)
    · rw [if_neg (nI_ne (by omega) (by omega) q)]
      by_cases c : g k = 16
      · rw [c, if_pos (show hI 16 = (-1 : Int32) from rfl)]
        exact nx (by unfold hiB; simp [c])
      · have gk : g k < waysS a k := (hG k hk).resolve_left c
        rw [hI_lt (by omega), if_neg (nI_n1 (by omega)), boxOf_eq (by omega) (by omega)]
        simp only [cP]
        rw [hitL_eq hV hL hi hk hw gk]
        simp only [bI_z]
        cases hc : clB a i w k (g k) 0 with
        | false =>
          rw [if_pos rfl]
          exact nx (by unfold hiB; simp [hc])
        | true =>
          rw [if_neg (by decide)]
          rw [show hiB a g i w k = true by unfold hiB; simp [hc, q, c], if_pos rfl] at hI'
          rw [hI']
  · intro f _ hI'
    show lb_NC_firstHit_14 (nI i) o m (bx i w) f (nI n) = _
    unfold lb_NC_firstHit_14
    rw [h0, if_pos (nI_le (Nat.le_refl _) (by omega)), ← hI', Nat.sub_self]
    rfl
theorem clashIn_eq {m : Me} {n d : Nat} {a : Ch} {i w : Nat} (hV : VV n d a) (hM : MM m n d a) (hi : i < n) (hw : w < waysS a i) :
    ∃ m', f_Mo_clashInHand (nI i) (nI w) m = some (lsI (hiB a (a 7) i w) n, m') ∧ Fm SD m m' := by
  have h24 := hV.1
  have w16 := waysS_le (a := a) (i := i)
  unfold f_Mo_clashInHand
  refine up aM n (fun k m' => lsF (hiB a (a 7) i w) (n - k) k = lsI (hiB a (a 7) i w) n ∧ Fm SD m m') (fun r => ∃ m', r = some (lsI (hiB a (a 7) i w) n, m') ∧ Fm SD m m') 0 m (by omega) (by unfold FU; omega) ⟨rfl, Fm.rf⟩ ?_ ?_
  · rintro f k m1 hk ⟨hI', f1⟩ ih
    show ∃ m', lb_Mo_clashInHand_2 (nI i) (nI w) f (nI k) m1 = some (_, m') ∧ _
    unfold lb_Mo_clashInHand_2
    have M1 := hM.fD f1
    have w16' := waysS_le (a := a) (i := k)
    rw [lsF_st hk] at hI'
    rw [M1.1, if_neg (nI_ge hk (by omega))]
    simp only [bd, nI_1, show ln 207 = 24 from rfl, rd_n (show k < 24 by omega) (show 24 < 2 ^ 31 by decide), show m1.1 207 k = nI (a 7 k) from M1.2.2.1 7 k (by omega) (by omega) hk]
    have nx : ∀ m2, Fm SD m m2 → hiB a (a 7) i w k = false → ∃ m', f (nI (k + 1)) m2 = some (lsI (hiB a (a 7) i w) n, m') ∧ Fm SD m m' := by
      intro m2 f2 hf
      rw [hf, if_neg (by decide)] at hI'
      exact ih m2 ⟨hI', f2⟩
    by_cases q : k = i
    · subst q
      rw [if_pos rfl]
      exact nx m1 f1 (by unfold hiB; simp)
    · rw [if_neg (nI_ne (by omega) (by omega) q)]
      by_cases c : a 7 k = 16
      · rw [c, if_pos (show nI 16 = (16 : Int32) from rfl)]
        exact nx m1 f1 (by unfold hiB; simp [c])
      · have gk : a 7 k < waysS a k := (hV.gs k hk).resolve_left c
        rw [if_neg (show ¬ nI (a 7 k) = (16 : Int32) from nI_ne (b := 16) (by omega) (by decide) c)]
        obtain ⟨m2, e2, f2⟩ := doClash_eq (z := 0) hV M1 hi hk (show w < 16 by omega) (show a 7 k < 16 by omega) (by omega)
        rw [show f_Mo_doClash (nI i) (nI w) (nI k) (nI (a 7 k)) 0 m1 = _ from e2]
        simp only [cI, bI_z]
        cases hc : clB a i w k (a 7 k) 0 with
        | false =>
          rw [if_pos rfl]
          exact nx m2 (f1.tr f2) (by unfold hiB; simp [hc])
        | true =>
          rw [if_neg (by decide)]
          rw [show hiB a (a 7) i w k = true by unfold hiB; simp [hc, q, c], if_pos rfl] at hI'
          rw [← hI']
          exact ⟨m2, rfl, f1.tr f2⟩
  · rintro f m1 ⟨hI', f1⟩
    show ∃ m', lb_Mo_clashInHand_2 (nI i) (nI w) f (nI n) m1 = some (_, m') ∧ _
    unfold lb_Mo_clashInHand_2
    rw [(hM.fD f1).1, if_pos (nI_le (Nat.le_refl _) (by omega)), ← hI', Nat.sub_self]
    exact ⟨m1, rfl, f1⟩
theorem c_why {m : Me} (hI' : Inv m) (x0 y0 : Int32) : PairI (f_NC_why x0 y0 m) (f_Mo_why x0 y0) := by
  obtain ⟨n, d, a, e, h, H, i⟩ := hI'
  obtain ⟨i1, i2, i3, i4, i5, i6, i7, i8, i9⟩ := id i
  obtain ⟨x, hx, rfl⟩ := arg x0
  obtain ⟨y, hy, rfl⟩ := arg y0
  have n24 := i1.1
  unfold f_NC_why
  rw [hasWay_eq hx hy i1 i2]
  simp only [cP, bI_z]
  cases hb : hwB n a x y with
  | false =>
    rw [if_pos rfl]
    refine ⟨-3, m, si m 200 0 0, rfl, ?_, i.m0.inv⟩
    unfold f_Mo_why
    simp only [bd]
    rw [isWay_eq hx hy i1 (i.m0).2.2.1]
    simp only [cP, bI_z]
    rw [hb, if_pos rfl]
  | true =>
    obtain ⟨ix, w, hix, hw, rfl, rfl⟩ := hw_get hb
    have a7 := a7_le i1 hix
    rw [if_neg (by decide), ← nI_i ix, ← nI_i w, show ln 17 = 24 from rfl, rd_n (by omega) (by omega), show m.1 17 ix = hI (a 7 ix) from i2.2.2.2.1 ix hix]
    have mo : ∀ m1, Iv m1 n d a e h H → f_Mo_why (nI ix) (nI w) m1 = (if nI (a 7 ix) = (16 : Int32) then cI (f_Mo_clashInHand (nI ix) (nI w) (si m1 200 0 0)) (fun v4 m5 => some (v4, m5)) else some ((-4 : Int32), si m1 200 0 0)) := by
      intro m1 j1
      unfold f_Mo_why
      simp only [bd]
      rw [nI_i ix, nI_i w, isWay_eq hx hy i1 (j1.m0).2.2.1]
      simp only [cP_s, bI_z]
      rw [hb, if_neg (by decide), ← nI_i ix, ← nI_i w, show ln 207 = 24 from rfl, rd_n (by omega) (by omega), show (si m1 200 0 0).1 207 ix = nI (a 7 ix) from (j1.m0).2.2.1.2.2.1 7 ix (by omega) (by omega) hix]
    by_cases c : a 7 ix = 16
    · rw [c, if_pos (show hI 16 = (-1 : Int32) from rfl)]
      obtain ⟨m1, e1, j1, k1⟩ := layOut_q i
      rw [e1]
      simp only []
      rw [firstHit_eq i1 j1.2.1.1 k1 rfl i1.gs (fun k hk => j1.2.1.2.2.2.1 k hk) hix hw]
      obtain ⟨m2, e2, f2⟩ := clashIn_eq i1 (j1.m0).2.2.1 hix hw
      refine ⟨_, m1, m2, rfl, ?_, ((j1.m0).fD f2).inv⟩
      rw [mo m1 j1, c, if_pos (show nI 16 = (16 : Int32) from rfl), e2]
      rfl
    · rw [hI_lt (by omega), if_neg (nI_n1 (by omega))]
      refine ⟨-4, m, si m 200 0 0, rfl, ?_, i.m0.inv⟩
      rw [mo m i, if_neg (show ¬ nI (a 7 ix) = (16 : Int32) from nI_ne (b := 16) (by omega) (by decide) c)]
/-! check -/
noncomputable def shB (n d : Nat) (a : Ch) (k : Nat) : Bool := decide (a 7 k ≠ 16) && !(opB n d a k (a 7 k) 0)
noncomputable def ccB (n : Nat) (a : Ch) (k : Nat) : Bool := decide (a 7 k ≠ 16) && anyB (hiB a (a 7) k (a 7 k)) n
def miB (a : Ch) (k : Nat) : Bool := decide (a 1 k = 3) && decide (a 7 k = 16)
theorem ls_any {f : Nat → Bool} {n : Nat} (h : n < 2 ^ 31) : (lsI f n = -1) = (anyB f n = false) := by
  apply propext
  rw [lsI_n1 h, anyB_f]
theorem shut_eq {m : Me} {n d : Nat} {a : Ch} (hV : VV n d a) (hC : CC m 10 n d a) (hL : LK m n d a) : f_NC_firstShut m = some (lsI (shB n d a) n) := by
  have h24 := hV.1
  unfold f_NC_firstShut
  refine up aU n (fun k _ => lsF (shB n d a) (n - k) k = lsI (shB n d a) n) (fun r => r = some (lsI (shB n d a) n)) 0 () (by omega) (by unfold FU; omega) rfl ?_ ?_
  · intro f k _ hk hI' ih
    show lb_NC_firstShut_2 m f (nI k) = _
    unfold lb_NC_firstShut_2
    have w16' := waysS_le (a := a) (i := k)
    rw [lsF_st hk] at hI'
    rw [hC.1, if_neg (nI_ge hk (by omega)), show ln 17 = 24 from rfl, rd_n (by omega) (by omega)]
    simp only [bd, nI_1, rd_n (show k < 24 by omega) (show 24 < 2 ^ 31 by decide), show m.1 17 k = hI (a 7 k) from hC.2.2.2.1 k hk]
    have nx : shB n d a k = false → f (nI (k + 1)) = some (lsI (shB n d a) n) := by
      intro hf
      rw [hf, if_neg (by decide)] at hI'
      exact ih () hI'
    by_cases c : a 7 k = 16
    · rw [c, if_pos (show hI 16 = (-1 : Int32) from rfl)]
      exact nx (by unfold shB; simp [c])
    · have gk : a 7 k < waysS a k := (hV.gs k hk).resolve_left c
      rw [hI_lt (by omega), if_neg (nI_n1 (by omega)), layOpen_eq hV hL hk (by omega), show owB n d a k (a 7 k) = opB n d a k (a 7 k) 0 by unfold owB; simp [gk]]
      simp only [cP, bI_z]
      cases ho : opB n d a k (a 7 k) 0 with
      | false =>
        rw [if_pos rfl]
        rw [show shB n d a k = true by unfold shB; simp [c, ho], if_pos rfl] at hI'
        rw [hI']
      | true =>
        rw [if_neg (by decide)]
        exact nx (by unfold shB; simp [ho])
  · intro f _ hI'
    show lb_NC_firstShut_2 m f (nI n) = _
    unfold lb_NC_firstShut_2
    rw [hC.1, if_pos (nI_le (Nat.le_refl _) (by omega)), ← hI', Nat.sub_self]
    rfl
theorem clashing_eq {m : Me} {n d : Nat} {a : Ch} (hV : VV n d a) (hC : CC m 10 n d a) (hL : LK m n d a) : f_NC_firstClashing m = some (lsI (ccB n a) n) := by
  have h24 := hV.1
  unfold f_NC_firstClashing
  refine up aU n (fun k _ => lsF (ccB n a) (n - k) k = lsI (ccB n a) n) (fun r => r = some (lsI (ccB n a) n)) 0 () (by omega) (by unfold FU; omega) rfl ?_ ?_
  · intro f k _ hk hI' ih
    show lb_NC_firstClashing_2 m f (nI k) = _
    unfold lb_NC_firstClashing_2
    have w16' := waysS_le (a := a) (i := k)
    rw [lsF_st hk] at hI'
    rw [hC.1, if_neg (nI_ge hk (by omega)), show ln 17 = 24 from rfl, rd_n (by omega) (by omega)]
    simp only [bd, nI_1, rd_n (show k < 24 by omega) (show 24 < 2 ^ 31 by decide), show m.1 17 k = hI (a 7 k) from hC.2.2.2.1 k hk]
    have nx : ccB n a k = false → f (nI (k + 1)) = some (lsI (ccB n a) n) := by
      intro hf
      rw [hf, if_neg (by decide)] at hI'
      exact ih () hI'
    by_cases c : a 7 k = 16
    · rw [c, if_pos (show hI 16 = (-1 : Int32) from rfl)]
      exact nx (by unfold ccB; simp [c])
    · have gk : a 7 k < waysS a k := (hV.gs k hk).resolve_left c
      rw [hI_lt (by omega), if_neg (nI_n1 (by omega)), firstHit_eq hV hC.1 hL rfl hV.gs (fun k hk => hC.2.2.2.1 k hk) hk gk]
      simp only [cP, ls_any (show n < 2 ^ 31 by omega)]
      cases ho : anyB (hiB a (a 7) k (a 7 k)) n with
      | false =>
        rw [if_pos rfl]
        exact nx (by unfold ccB; simp [ho])
      | true =>
        rw [if_neg (by decide)]
        rw [show ccB n a k = true by unfold ccB; simp [c, ho], if_pos rfl] at hI'
        rw [hI']
  · intro f _ hI'
    show lb_NC_firstClashing_2 m f (nI n) = _
    unfold lb_NC_firstClashing_2
    rw [hC.1, if_pos (nI_le (Nat.le_refl _) (by omega)), ← hI', Nat.sub_self]
    rfl
theorem missing_eq {m : Me} {n d : Nat} {a : Ch} (hV : VV n d a) (hC : CC m 10 n d a) : f_NC_firstMissing m = some (lsI (miB a) n) := by
  have h24 := hV.1
  unfold f_NC_firstMissing
  refine up aU n (fun k _ => lsF (miB a) (n - k) k = lsI (miB a) n) (fun r => r = some (lsI (miB a) n)) 0 () (by omega) (by unfold FU; omega) rfl ?_ ?_
  · intro f k _ hk hI' ih
    show lb_NC_firstMissing_2 m f (nI k) = _
    unfold lb_NC_firstMissing_2
    have h3 := (hV.2.2.1 k hk).1.1
    have a7 := a7_le hV hk
    rw [lsF_st hk] at hI'
    rw [hC.1, if_neg (nI_ge hk (by omega)), show ln 11 = 24 from rfl, rd_n (by omega) (by omega)]
    simp only [bd, nI_1, show ln 17 = 24 from rfl, rd_n (show k < 24 by omega) (show 24 < 2 ^ 31 by decide), show m.1 17 k = hI (a 7 k) from hC.2.2.2.1 k hk, show m.1 11 k = nI (a 1 k) from (hC.nm hk).1, hI_n1 a7]
    have nx : miB a k = false → f (nI (k + 1)) = some (lsI (miB a) n) := by
      intro hf
      rw [hf, if_neg (by decide)] at hI'
      exact ih () hI'
    by_cases c : a 1 k = 3
    · rw [c, if_pos (show nI 3 = (3 : Int32) from rfl)]
      by_cases c2 : a 7 k = 16
      · rw [if_pos c2]
        rw [show miB a k = true by unfold miB; simp [c, c2], if_pos rfl] at hI'
        rw [hI']
      · rw [if_neg c2]
        exact nx (by unfold miB; simp [c2])
    · rw [if_neg (show ¬ nI (a 1 k) = (3 : Int32) from nI_ne (b := 3) (by omega) (by decide) c)]
      exact nx (by unfold miB; simp [c])
  · intro f _ hI'
    show lb_NC_firstMissing_2 m f (nI n) = _
    unfold lb_NC_firstMissing_2
    rw [hC.1, if_pos (nI_le (Nat.le_refl _) (by omega)), ← hI', Nat.sub_self]
    rfl
def ckV (s c w : Int32) : Int32 := if s = -1 then (if c = -1 then (if w = -1 then 0 else 300 + w) else 200 + c) else 100 + s
theorem mck3 {m : Me} {n d : Nat} {a : Ch} (hV : VV n d a) (hM : MM m n d a) : (fx (lb_Mo_check_102 m) (fun _ => none) FU) 0 = some ((if lsI (miB a) n = -1 then 0 else 300 + lsI (miB a) n), m) := by
  have h24 := hV.1
  refine up aU n (fun k _ => lsF (miB a) (n - k) k = lsI (miB a) n) (fun r => r = some ((if lsI (miB a) n = -1 then 0 else 300 + lsI (miB a) n), m)) 0 () (by omega) (by unfold FU; omega) rfl ?_ ?_
  · intro f k _ hk hI' ih
    show lb_Mo_check_102 m f (nI k) = _
    unfold lb_Mo_check_102
    have h3 := (hV.2.2.1 k hk).1.1
    have a7 := a7_le hV hk
    rw [lsF_st hk] at hI'
    rw [hM.1, if_neg (nI_ge hk (by omega)), show ln 207 = 24 from rfl, rd_n (by omega) (by omega)]
    simp only [bd, nI_1, show ln 201 = 24 from rfl, rd_n (show k < 24 by omega) (show 24 < 2 ^ 31 by decide), show m.1 207 k = nI (a 7 k) from hM.2.2.1 7 k (by omega) (by omega) hk, show m.1 201 k = nI (a 1 k) from (hM.nm hk).1]
    have nx : miB a k = false → f (nI (k + 1)) = some ((if lsI (miB a) n = -1 then 0 else 300 + lsI (miB a) n), m) := by
      intro hf
      rw [hf, if_neg (by decide)] at hI'
      exact ih () hI'
    by_cases c2 : a 7 k = 16
    · rw [c2, if_pos (show nI 16 = (16 : Int32) from rfl)]
      by_cases c : a 1 k = 3
      · rw [c, if_pos (show nI 3 = (3 : Int32) from rfl)]
        rw [show miB a k = true by unfold miB; simp [c, c2], if_pos rfl] at hI'
        rw [← hI', if_neg (nI_n1 (by omega))]
      · rw [if_neg (show ¬ nI (a 1 k) = (3 : Int32) from nI_ne (b := 3) (by omega) (by decide) c)]
        exact nx (by unfold miB; simp [c])
    · rw [if_neg (show ¬ nI (a 7 k) = (16 : Int32) from nI_ne (b := 16) (by omega) (by decide) c2)]
      exact nx (by unfold miB; simp [c2])
  · intro f _ hI'
    show lb_Mo_check_102 m f (nI n) = _
    unfold lb_Mo_check_102
    rw [hM.1, if_pos (nI_le (Nat.le_refl _) (by omega)), ← hI', Nat.sub_self]
    rfl
theorem mck2 {m : Me} {n d : Nat} {a : Ch} {K : Me → Option (Int32 × Me)} {Q : Option (Int32 × Me) → Prop} (hV : VV n d a) (hM : MM m n d a)
    (hK : lsI (ccB n a) n = -1 → ∀ m', Fm SD m m' → Q (K m')) (hS : lsI (ccB n a) n ≠ -1 → ∀ m', Fm SD m m' → Q (some (200 + lsI (ccB n a) n, m'))) : Q ((fx (lb_Mo_check_54 K) (fun _ _ => none) FU) 0 m) := by
  have h24 := hV.1
  refine up aM n (fun k m' => lsF (ccB n a) (n - k) k = lsI (ccB n a) n ∧ Fm SD m m') Q 0 m (by omega) (by unfold FU; omega) ⟨rfl, Fm.rf⟩ ?_ ?_
  · rintro f k m1 hk ⟨hI', f1⟩ ih
    show Q (lb_Mo_check_54 K f (nI k) m1)
    unfold lb_Mo_check_54
    have w16' := waysS_le (a := a) (i := k)
    have M1 := hM.fD f1
    rw [lsF_st hk] at hI'
    rw [M1.1, if_neg (nI_ge hk (by omega)), show ln 207 = 24 from rfl, rd_n (by omega) (by omega)]
    simp only [bd, nI_1, rd_n (show k < 24 by omega) (show 24 < 2 ^ 31 by decide), show m1.1 207 k = nI (a 7 k) from M1.2.2.1 7 k (by omega) (by omega) hk]
    have nx : ∀ m2, Fm SD m m2 → ccB n a k = false → Q (f (nI (k + 1)) m2) := by
      intro m2 f2 hf
      rw [hf, if_neg (by decide)] at hI'
      exact ih m2 ⟨hI', f2⟩
    by_cases c : a 7 k = 16
    · rw [c, if_pos (show nI 16 = (16 : Int32) from rfl)]
      exact nx m1 f1 (by unfold ccB; simp [c])
    · have gk : a 7 k < waysS a k := (hV.gs k hk).resolve_left c
      rw [if_neg (show ¬ nI (a 7 k) = (16 : Int32) from nI_ne (b := 16) (by omega) (by decide) c)]
      obtain ⟨m2, e2, f2⟩ := clashIn_eq hV M1 hk gk
      rw [e2]
      simp only [cI, ls_any (show n < 2 ^ 31 by omega)]
      cases ho : anyB (hiB a (a 7) k (a 7 k)) n with
      | false =>
        rw [if_pos rfl]
        exact nx m2 (f1.tr f2) (by unfold ccB; simp [ho])
      | true =>
        rw [if_neg (by decide)]
        rw [show ccB n a k = true by unfold ccB; simp [c, ho], if_pos rfl] at hI'
        rw [hI']
        exact hS (by rw [← hI']; exact nI_n1 (by omega)) m2 (f1.tr f2)
  · rintro f m1 ⟨hI', f1⟩
    show Q (lb_Mo_check_54 K f (nI n) m1)
    unfold lb_Mo_check_54
    rw [(hM.fD f1).1, if_pos (nI_le (Nat.le_refl _) (by omega))]
    refine hK ?_ m1 f1
    rw [← hI', Nat.sub_self]
    rfl
theorem mck1 {m : Me} {n d : Nat} {a : Ch} {K : Me → Option (Int32 × Me)} {Q : Option (Int32 × Me) → Prop} (hV : VV n d a) (hM : MM m n d a)
    (hK : lsI (shB n d a) n = -1 → ∀ m', Fm SD m m' → Q (K m')) (hS : lsI (shB n d a) n ≠ -1 → ∀ m', Fm SD m m' → Q (some (100 + lsI (shB n d a) n, m'))) : Q ((fx (lb_Mo_check_7 K) (fun _ _ => none) FU) 0 m) := by
  have h24 := hV.1
  refine up aM n (fun k m' => lsF (shB n d a) (n - k) k = lsI (shB n d a) n ∧ Fm SD m m') Q 0 m (by omega) (by unfold FU; omega) ⟨rfl, Fm.rf⟩ ?_ ?_
  · rintro f k m1 hk ⟨hI', f1⟩ ih
    show Q (lb_Mo_check_7 K f (nI k) m1)
    unfold lb_Mo_check_7
    have w16' := waysS_le (a := a) (i := k)
    have M1 := hM.fD f1
    rw [lsF_st hk] at hI'
    rw [M1.1, if_neg (nI_ge hk (by omega)), show ln 207 = 24 from rfl, rd_n (by omega) (by omega)]
    simp only [bd, nI_1, rd_n (show k < 24 by omega) (show 24 < 2 ^ 31 by decide), show m1.1 207 k = nI (a 7 k) from M1.2.2.1 7 k (by omega) (by omega) hk]
    have nx : ∀ m2, Fm SD m m2 → shB n d a k = false → Q (f (nI (k + 1)) m2) := by
      intro m2 f2 hf
      rw [hf, if_neg (by decide)] at hI'
      exact ih m2 ⟨hI', f2⟩
    by_cases c : a 7 k = 16
    · rw [c, if_pos (show nI 16 = (16 : Int32) from rfl)]
      exact nx m1 f1 (by unfold shB; simp [c])
    · have gk : a 7 k < waysS a k := (hV.gs k hk).resolve_left c
      rw [if_neg (show ¬ nI (a 7 k) = (16 : Int32) from nI_ne (b := 16) (by omega) (by decide) c)]
      obtain ⟨m2, e2, f2⟩ := moOpen_eq (w := a 7 k) (z := 0) hV M1 hk (by omega) (by omega)
      rw [show f_Mo_isOpen (nI k) (nI (a 7 k)) 0 m1 = _ from e2]
      simp only [cI, bI_z]
      cases ho : opB n d a k (a 7 k) 0 with
      | false =>
        rw [if_pos rfl]
        rw [show shB n d a k = true by unfold shB; simp [c, ho], if_pos rfl] at hI'
        rw [hI']
        exact hS (by rw [← hI']; exact nI_n1 (by omega)) m2 (f1.tr f2)
      | true =>
        rw [if_neg (by decide)]
        exact nx m2 (f1.tr f2) (by unfold shB; simp [ho])
  · rintro f m1 ⟨hI', f1⟩
    show Q (lb_Mo_check_7 K f (nI n) m1)
    unfold lb_Mo_check_7
    rw [(hM.fD f1).1, if_pos (nI_le (Nat.le_refl _) (by omega))]
    refine hK ?_ m1 f1
    rw [← hI', Nat.sub_self]
    rfl
theorem c_check {m : Me} (hI' : Inv m) : PairI (f_NC_check m) f_Mo_check := by
  obtain ⟨n, d, a, e, h, H, i⟩ := hI'
  obtain ⟨i1, i2, i3, i4, i5, i6, i7, i8, i9⟩ := id i
  obtain ⟨m1, e1, j1, k1⟩ := layOut_q i
  have j := j1.m0
  refine ⟨ckV (lsI (shB n d a) n) (lsI (ccB n a) n) (lsI (miB a) n), m1, ?_⟩
  have A : f_NC_check m = some (ckV (lsI (shB n d a) n) (lsI (ccB n a) n) (lsI (miB a) n), m1) := by
    unfold f_NC_check ckV
    rw [e1]
    simp only [cP]
    rw [shut_eq i1 j1.2.1 k1]
    simp only []
    rw [clashing_eq i1 j1.2.1 k1]
    simp only []
    rw [missing_eq i1 j1.2.1]
    simp only []
    split <;> (try split) <;> (try split) <;> rfl
  have B : ∃ m2, f_Mo_check m1 = some (ckV (lsI (shB n d a) n) (lsI (ccB n a) n) (lsI (miB a) n), m2) ∧ Fm SD (si m1 200 0 0) m2 := by
    unfold f_Mo_check
    rw [bdE, bdE]
    refine mck1 (Q := fun r => ∃ m2, r = some (ckV (lsI (shB n d a) n) (lsI (ccB n a) n) (lsI (miB a) n), m2) ∧ Fm SD (si m1 200 0 0) m2) i1 j.2.2.1 ?_ ?_
    · intro h1 m2 f2
      rw [bdE]
      refine mck2 (Q := fun r => ∃ m2, r = some (ckV (lsI (shB n d a) n) (lsI (ccB n a) n) (lsI (miB a) n), m2) ∧ Fm SD (si m1 200 0 0) m2) i1 (j.2.2.1.fD f2) ?_ ?_
      · intro h2 m3 f3
        rw [mck3 i1 ((j.2.2.1.fD f2).fD f3)]
        refine ⟨m3, ?_, f2.tr f3⟩
        unfold ckV
        rw [if_pos h1, if_pos h2]
      · intro h2 m3 f3
        refine ⟨m3, ?_, f2.tr f3⟩
        unfold ckV
        rw [if_pos h1, if_neg h2]
    · intro h1 m2 f2
      refine ⟨m2, ?_, f2⟩
      unfold ckV
      rw [if_neg h1]
  obtain ⟨m2, e2, f2⟩ := B
  exact ⟨m2, A, e2, (j.fD f2).inv⟩
