/-! PURE PART, BEST: the first reaching way; all names of a part -/
def wyS (a : Ch) (M : Nat → Nat) (i r : Nat) : Nat := if r = 16 then 16 else wbS a (M i) r
def BCs (must : Nat → Bool) (gain : Nat → Nat → Nat) (ban : Nat → Nat → Nat → Nat → Bool) (K : Nat) (A : Nat → Nat → Bool) (W : Nat) (c : Nat → Nat) : Prop := CPr must ban K 0 A c ∧ vlr gain K 0 c = W
set_option maxHeartbeats 1000000 in
theorem firstR_ok {m : Me} {n d : Nat} {a : Ch} {K : Nat} {M : Nat → Nat} {must : Nat → Bool} {gain : Nat → Nat → Nat} {ban : Nat → Nat → Nat → Nat → Bool} {Ob : Nat → Nat → Bool} {i W : Nat} (hV : VV n d a) (hC : CC m 10 n d a) (hM : ∀ j, j < K → m.1 100 j = nI (M j) ∧ M j < n) (hS : SRm m K must gain ban) (hP : PO K must gain ban Ob) (hA : InO K (av (m.2 9 6) (m.2 9 7)) Ob) (hi : i < K) (hW : W ≤ 1400000) (hmax : ∀ c, CPr must ban K 0 Ob c → vlr gain K 0 c ≤ W) (hex : ∃ c, BCs must gain ban K (av (m.2 9 6) (m.2 9 7)) W c) :
    ∃ (r : Nat) (m' : Me), r ≤ 16 ∧ f_Search_firstReaching (nI i) (nI W) m = some (hI (wyS a M i r), m') ∧ Fm S98 m m' ∧ LF m m' ∧ InO K (av (m'.2 9 6) (m'.2 9 7)) Ob ∧
      (∀ c, BCs must gain ban K (av (m'.2 9 6) (m'.2 9 7)) W c → c i = r ∧ BCs must gain ban K (av (m.2 9 6) (m.2 9 7)) W c) ∧
      (∀ c, BCs must gain ban K (av (m.2 9 6) (m.2 9 7)) W c → c i = r → BCs must gain ban K (av (m'.2 9 6) (m'.2 9 7)) W c) ∧
      (∃ c, BCs must gain ban K (av (m'.2 9 6) (m'.2 9 7)) W c) ∧
      ∀ c, BCs must gain ban K (av (m.2 9 6) (m.2 9 7)) W c → wyS a M i r ≤ wyS a M i (c i) := by
  have k7 := hS.1
  obtain ⟨mi1, mi2⟩ := hM i hi
  have n24 := hV.1
  unfold f_Search_firstReaching
  obtain ⟨u, eu, u1, u2⟩ := bitsOf_eq (i := i) (F := m.2 9 6) (B := m.2 9 7) (m := m) (by omega)
  rw [eu, cP_s, bdE]
  have le : ∀ c A, BCs must gain ban K A W c → c i ≤ 16 := fun c A h => us_le ((CP_flat.mp h.1).1 i (by omega) (by omega))
  refine up aM 16 (fun w m' => Fm S98 m m' ∧ m'.2 = m.2 ∧ ∀ c, BCs must gain ban K (av (m.2 9 6) (m.2 9 7)) W c → ∀ v, v < w → c i ≠ rkS a (M i) v) (fun x => ∃ (r : Nat) (m' : Me), r ≤ 16 ∧ x = some (hI (wyS a M i r), m') ∧ Fm S98 m m' ∧ LF m m' ∧ InO K (av (m'.2 9 6) (m'.2 9 7)) Ob ∧ (∀ c, BCs must gain ban K (av (m'.2 9 6) (m'.2 9 7)) W c → c i = r ∧ BCs must gain ban K (av (m.2 9 6) (m.2 9 7)) W c) ∧ (∀ c, BCs must gain ban K (av (m.2 9 6) (m.2 9 7)) W c → c i = r → BCs must gain ban K (av (m'.2 9 6) (m'.2 9 7)) W c) ∧ (∃ c, BCs must gain ban K (av (m'.2 9 6) (m'.2 9 7)) W c) ∧ ∀ c, BCs must gain ban K (av (m.2 9 6) (m.2 9 7)) W c → wyS a M i r ≤ wyS a M i (c i)) 0 m (by omega) (by unfold FU; omega) ⟨Fm.rf, rfl, fun c _ v hv => by omega⟩ ?_ ?_
  · rintro f w m1 hw ⟨f1, l1, a1⟩ ih
    show ∃ (r : Nat) (m' : Me), r ≤ 16 ∧ lb_Search_firstReaching_17 (nI i) (nI W) u _ f (nI w) m1 = some (hI (wyS a M i r), m') ∧ _
    unfold lb_Search_firstReaching_17
    have C1 := hC.fr f1 (fun o j _ _ => by unfold S98; omega)
    have r16 := rk16 (a := a) (i := M i) hw
    have S1 := hS.fr f1 (fun o _ => by rw [l1])
    rw [if_neg (show ¬ (16 : Int32) ≤ nI w from nI_ge (b := 16) hw (by decide)), show ln 100 = 7 from rfl, rd_n (by omega) (by omega), show m1.1 100 i = nI (M i) by rw [f1 _ _ (by unfold S98; omega)]; exact mi1, rk_eq hV C1 mi2 hw, cP_s, bdE]
    simp only [tst (show rkS a (M i) w < 32 by omega)]
    have nx : ∀ m2 : Me, Fm S98 m m2 → m2.2 = m.2 → (∀ c, BCs must gain ban K (av (m.2 9 6) (m.2 9 7)) W c → c i ≠ rkS a (M i) w) → ∃ (r : Nat) (m' : Me), r ≤ 16 ∧ f (nI (w + 1)) m2 = some (hI (wyS a M i r), m') ∧ Fm S98 m m' ∧ LF m m' ∧ InO K (av (m'.2 9 6) (m'.2 9 7)) Ob ∧ (∀ c, BCs must gain ban K (av (m'.2 9 6) (m'.2 9 7)) W c → c i = r ∧ BCs must gain ban K (av (m.2 9 6) (m.2 9 7)) W c) ∧ (∀ c, BCs must gain ban K (av (m.2 9 6) (m.2 9 7)) W c → c i = r → BCs must gain ban K (av (m'.2 9 6) (m'.2 9 7)) W c) ∧ (∃ c, BCs must gain ban K (av (m'.2 9 6) (m'.2 9 7)) W c) ∧ ∀ c, BCs must gain ban K (av (m.2 9 6) (m.2 9 7)) W c → wyS a M i r ≤ wyS a M i (c i) := by
      intro m2 f2 l2 h2
      refine ih m2 ⟨f2, l2, fun c hc v hv => ?_⟩
      by_cases e : v = w
      · subst e; exact h2 c hc
      · exact a1 c hc v (by omega)
    by_cases c1 : bb u (rkS a (M i) w) = true
    · rw [if_pos c1]
      have av1 : av (m.2 9 6) (m.2 9 7) i (rkS a (M i) w) = true := by rw [← u1 _ r16]; exact c1
      obtain ⟨b, m2, e2, t1, t2, t3, t4⟩ := fixIf_ok (m := m1) (W := W) S1 hP (by rw [l1]; exact hA) hi r16 (by rw [l1]; exact av1) hW
      rw [l1] at t3 t4
      rw [e2, cI_s]
      simp only [bI_z]
      cases hb : b with
      | true =>
        rw [if_neg (by decide)]
        obtain ⟨⟨c0, hc0, hv0⟩, t6⟩ := t3 hb
        have wb' : wbS a (M i) (rkS a (M i) w) = w := ((rkwb hw r16).mp rfl).symm
        have wy : wyS a M i (rkS a (M i) w) = w := by unfold wyS; rw [if_neg (by omega)]; exact wb'
        have toA : ∀ c, CPr must ban K 0 (av (m2.2 9 6) (m2.2 9 7)) c ↔ CPr must ban K 0 (A1s (av (m.2 9 6) (m.2 9 7)) ban i (rkS a (M i) w)) c := fun c => ⟨fun h => CP_mo (fun j s j1 j2 hs z => by rw [t6 j s (by omega) hs] at z; exact z) h, fun h => CP_mo (fun j s j1 j2 hs z => by rw [t6 j s (by omega) hs]; exact z) h⟩
        have bk : ∀ c, CPr must ban K 0 (A1s (av (m.2 9 6) (m.2 9 7)) ban i (rkS a (M i) w)) c → W ≤ vlr gain K 0 c → c i = rkS a (M i) w ∧ BCs must gain ban K (av (m.2 9 6) (m.2 9 7)) W c := by
          intro c hc hv
          obtain ⟨q1, q2⟩ := fix1 hP hA hi r16 av1 hmax hc hv
          refine ⟨q1, q2, ?_⟩
          have := hmax c (CP_mo (fun j s j1 j2 hs z => hA j s (by omega) hs z) q2)
          omega
        refine ⟨rkS a (M i) w, m2, by omega, by rw [wy, hI_lt hw], f1.tr t1, fun o j z => by rw [t2 o j z, l1], fun j s hj hs z => ?_, fun c hc => ?_, fun c hc ec => ?_, ?_, fun c hc => ?_⟩
        · rw [t6 j s (by omega) hs] at z
          unfold A1s at z
          rw [Bool.or_eq_true, Bool.and_eq_true, Bool.and_eq_true] at z
          rcases z with z | z
          · exact hA j s hj hs z.1
          · rw [of_decide_eq_true z.1, of_decide_eq_true z.2]; exact hA i _ hi r16 av1
        · exact bk c ((toA c).mp hc.1) (by have := hc.2; omega)
        · exact ⟨(toA c).mpr (fix2 hP hA hi r16 hc.1 ec), hc.2⟩
        · have := (bk c0 hc0 hv0).2
          exact ⟨c0, (toA c0).mpr hc0, this.2⟩
        · rw [wy]
          have l := le c _ hc
          unfold wyS
          by_cases e : c i = 16
          · rw [if_pos e]; omega
          · rw [if_neg e]
            rcases Nat.lt_or_ge (wbS a (M i) (c i)) w with z | z
            · exact absurd ((rkwb (wb16 (by omega)) (by omega)).mpr rfl).symm (a1 c hc _ z)
            · exact z
      | false =>
        rw [if_pos rfl]
        obtain ⟨t5, t6⟩ := t4 hb
        rw [bdE, nI_1]
        refine nx m2 (f1.tr t1) t6 (fun c hc ec => ?_)
        have := t5 c (fix2 hP hA hi r16 hc.1 ec)
        have := hc.2
        omega
    · rw [if_neg c1, bdE, nI_1]
      refine nx m1 f1 l1 (fun c hc ec => ?_)
      have := (CP_flat.mp hc.1).1 i (by omega) (by omega)
      rw [ec, us_lt r16, ← u1 _ r16] at this
      exact c1 this
  · rintro f m1 ⟨f1, l1, a1⟩
    show ∃ (r : Nat) (m' : Me), r ≤ 16 ∧ lb_Search_firstReaching_17 (nI i) (nI W) u _ f (nI 16) m1 = some (hI (wyS a M i r), m') ∧ _
    unfold lb_Search_firstReaching_17
    rw [if_pos (show (16 : Int32) ≤ nI 16 by decide)]
    obtain ⟨F, B, -, eF, eB, hav⟩ := front_eq (i := i) (n := 65535) (m := m) (by omega)
    have eF' : ∀ m', f_Search_inFront (nI i) (65535 : Int32) m' = some F := eF
    have eB' : ∀ m', f_Search_inBack (nI i) (65535 : Int32) m' = some B := eB
    simp only []
    rw [eF', cP_s, bdE, eB', cP_s, bdE]
    have all16 : ∀ c, BCs must gain ban K (av (m.2 9 6) (m.2 9 7)) W c → c i = 16 := fun c hc => by
      have l := le c _ hc
      by_cases e : c i = 16
      · exact e
      · have h16 : c i < 16 := by omega
        exact absurd ((rkwb (wb16 h16) h16).mpr rfl).symm (a1 c hc _ (wb16 h16))
    have eA : ∀ j s, j < 8 → s < 16 → av ((sl (sl m1 9 6 (m1.2 9 6 &&& (F ^^^ (-1 : Int64)))) 9 7 ((sl m1 9 6 (m1.2 9 6 &&& (F ^^^ (-1 : Int64)))).2 9 7 &&& (B ^^^ (-1 : Int64)))).2 9 6) ((sl (sl m1 9 6 (m1.2 9 6 &&& (F ^^^ (-1 : Int64)))) 9 7 ((sl m1 9 6 (m1.2 9 6 &&& (F ^^^ (-1 : Int64)))).2 9 7 &&& (B ^^^ (-1 : Int64)))).2 9 7) j s = (av (m.2 9 6) (m.2 9 7) j s && !(decide (j = i))) := fun j s hj hs => by
      rw [show (sl (sl m1 9 6 (m1.2 9 6 &&& (F ^^^ (-1 : Int64)))) 9 7 ((sl m1 9 6 (m1.2 9 6 &&& (F ^^^ (-1 : Int64)))).2 9 7 &&& (B ^^^ (-1 : Int64)))).2 9 6 = m.2 9 6 &&& (F ^^^ (-1 : Int64)) by rw [sl2, if_neg (by omega), sl2, if_pos ⟨rfl, rfl⟩, l1], show (sl (sl m1 9 6 (m1.2 9 6 &&& (F ^^^ (-1 : Int64)))) 9 7 ((sl m1 9 6 (m1.2 9 6 &&& (F ^^^ (-1 : Int64)))).2 9 7 &&& (B ^^^ (-1 : Int64)))).2 9 7 = m.2 9 7 &&& (B ^^^ (-1 : Int64)) by rw [sl2, if_pos ⟨rfl, rfl⟩, sl2, if_neg (by omega), l1], av_and, av_not hj hs, hav j s (by decide) hj hs, allbits hs, Bool.and_true]
    have toA : ∀ c, BCs must gain ban K (av (m.2 9 6) (m.2 9 7)) W c → BCs must gain ban K (av ((sl (sl m1 9 6 (m1.2 9 6 &&& (F ^^^ (-1 : Int64)))) 9 7 ((sl m1 9 6 (m1.2 9 6 &&& (F ^^^ (-1 : Int64)))).2 9 7 &&& (B ^^^ (-1 : Int64)))).2 9 6) ((sl (sl m1 9 6 (m1.2 9 6 &&& (F ^^^ (-1 : Int64)))) 9 7 ((sl m1 9 6 (m1.2 9 6 &&& (F ^^^ (-1 : Int64)))).2 9 7 &&& (B ^^^ (-1 : Int64)))).2 9 7)) W c := by
      intro c hc
      refine ⟨?_, hc.2⟩
      obtain ⟨h1, h2⟩ := CP_flat.mp hc.1
      refine CP_flat.mpr ⟨fun t _ ht => ?_, h2⟩
      by_cases hl : c t < 16
      · rw [us_lt hl, eA t _ (by omega) hl]
        have := h1 t (by omega) ht
        rw [us_lt hl] at this
        rw [this]
        have : t ≠ i := fun z => by rw [z, all16 c hc] at hl; omega
        simp [this]
      · rw [us_16 (A' := av (m.2 9 6) (m.2 9 7)) hl]; exact h1 t (by omega) ht
    obtain ⟨c0, hc0⟩ := hex
    refine ⟨16, _, Nat.le_refl _, rfl, f1, fun o j z => ?_, fun j s hj hs z => ?_, fun c hc => ?_, fun c hc _ => toA c hc, ⟨c0, toA c0 hc0⟩, fun c hc => ?_⟩
    · rw [sl2, if_neg (by omega), sl2, if_neg (by omega), l1]
    · rw [eA j s (by omega) hs, Bool.and_eq_true] at z
      exact hA j s hj hs z.1
    · have hc' : BCs must gain ban K (av (m.2 9 6) (m.2 9 7)) W c := ⟨CP_mo (fun j s j1 j2 hs z => by rw [eA j s (by omega) hs, Bool.and_eq_true] at z; exact z.1) hc.1, hc.2⟩
      exact ⟨all16 c hc', hc'⟩
    · rw [all16 c hc]
      exact Nat.le_refl _
