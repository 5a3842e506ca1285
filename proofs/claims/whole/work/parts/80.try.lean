/-! PURE PART, BEST: the reference's search -/
def LX (K : Nat) (e e' : Nat → Nat) : Prop := ∀ k, k < K → (∀ j, j < k → e' j = e j) → e k ≤ e' k
def UR (K : Nat) (V : (Nat → Nat) → Prop) (val : (Nat → Nat) → Int) (b : Int) (m0 : Me) (b' : Int) (m' : Me) : Prop :=
  (b' = b ∧ (∀ j, j < K → m'.1 217 j = m0.1 217 j) ∧ ∀ e, V e → val e ≤ b) ∨ (b < b' ∧ ∃ e, V e ∧ b' = val e ∧ (∀ j, j < K → m'.1 217 j = nI (e j)) ∧ (∀ e', V e' → val e' ≤ b') ∧ ∀ e', V e' → val e' = b' → LX K e e')
theorem UR_cg {K : Nat} {V V' : (Nat → Nat) → Prop} {val : (Nat → Nat) → Int} {b b' : Int} {m0 m' : Me} (h : UR K V val b m0 b' m') (g : ∀ e, V' e ↔ V e) : UR K V' val b m0 b' m' := by
  rcases h with ⟨h1, h2, h3⟩ | ⟨h1, e, h2, h3, h4, h5, h6⟩
  · exact Or.inl ⟨h1, h2, fun e he => h3 e ((g e).mp he)⟩
  · exact Or.inr ⟨h1, e, (g e).mpr h2, h3, h4, fun e' he => h5 e' ((g e').mp he), fun e' he => h6 e' ((g e').mp he)⟩
theorem UR_two {K : Nat} {V1 V2 : (Nat → Nat) → Prop} {val : (Nat → Nat) → Int} {b b1 b2 : Int} {m0 m1 m2 : Me} (h : UR K V1 val b m0 b1 m1) (g : UR K V2 val b1 m1 b2 m2) (be : ∀ e e', V1 e → V2 e' → LX K e e') : UR K (fun e => V1 e ∨ V2 e) val b m0 b2 m2 := by
  rcases h with ⟨h1, h2, h3⟩ | ⟨h1, e, h2, h3, h4, h5, h6⟩
  · rcases g with ⟨g1, g2, g3⟩ | ⟨g1, e, g2, g3, g4, g5, g6⟩
    · refine Or.inl ⟨g1.trans h1, fun j hj => (g2 j hj).trans (h2 j hj), fun e he => ?_⟩
      rcases he with w | w
      · exact h3 e w
      · have := g3 e w; omega
    · refine Or.inr ⟨by omega, e, Or.inr g2, g3, g4, fun e' he => ?_, fun e' he hv => ?_⟩
      · rcases he with w | w
        · have := h3 e' w; omega
        · exact g5 e' w
      · rcases he with w | w
        · have := h3 e' w; omega
        · exact g6 e' w hv
  · rcases g with ⟨g1, g2, g3⟩ | ⟨g1, e2, g2, g3, g4, g5, g6⟩
    · refine Or.inr ⟨by omega, e, Or.inl h2, by omega, fun j hj => (g2 j hj).trans (h4 j hj), fun e' he => ?_, fun e' he hv => ?_⟩
      · rcases he with w | w
        · have := h5 e' w; omega
        · have := g3 e' w; omega
      · rcases he with w | w
        · exact h6 e' w (by omega)
        · exact be e e' h2 w
    · refine Or.inr ⟨by omega, e2, Or.inr g2, g3, g4, fun e' he => ?_, fun e' he hv => ?_⟩
      · rcases he with w | w
        · have := h5 e' w; omega
        · exact g5 e' w
      · rcases he with w | w
        · have := h5 e' w; omega
        · exact g6 e' w hv
def VX (n d : Nat) (a : Ch) (mb t : Nat → Nat) (i q : Nat) (e : Nat → Nat) : Prop := (∀ j, j < i → e j = t j) ∧ (∀ j, i ≤ j → j < i + q → okN n d a (mb j) (e j)) ∧ ∀ j k, j < k → i ≤ k → k < i + q → e j ≠ 16 → e k ≠ 16 → clB a (mb k) (e k) (mb j) (e j) 0 = false
/-- the memory of the search -/
def TM (m : Me) (n d : Nat) (a : Ch) (K : Nat) (mb cb : Nat → Nat) : Prop := MM m n d a ∧ FO m n d a ∧ m.1 200 29 = nI K ∧ (∀ j, j < K → m.1 215 j = nI (mb j)) ∧ ∀ j, j ≤ K → m.1 218 j = nI (cb j)
def STr (o j : Nat) : Prop := SD o j ∨ (o = 200 ∧ j = 32) ∨ o = 216 ∨ o = 217
theorem TM.fr {S : Nat → Nat → Prop} {m m' : Me} {n d : Nat} {a : Ch} {K : Nat} {mb cb : Nat → Nat} (h : TM m n d a K mb cb) (f : Fm S m m') (g : ∀ o j, S o j → STr o j) : TM m' n d a K mb cb := by
  obtain ⟨h1, h2, h3, h4, h5⟩ := h
  refine ⟨h1.fr f (fun w => ?_) (fun w => ?_) (fun o j _ _ w => ?_), h2.fr f (fun j w => ?_), ?_, fun j hj => ?_, fun j hj => ?_⟩
  · have := g _ _ w; unfold STr SD at this; omega
  · have := g _ _ w; unfold STr SD at this; omega
  · have := g _ _ w; unfold STr SD at this; omega
  · have := g _ _ w; unfold STr SD at this; omega
  · rw [f _ _ (fun w => by have := g _ _ w; unfold STr SD at this; omega)]; exact h3
  · rw [f _ _ (fun w => by have := g _ _ w; unfold STr SD at this; omega)]; exact h4 j hj
  · rw [f _ _ (fun w => by have := g _ _ w; unfold STr SD at this; omega)]; exact h5 j hj
theorem moFits_eq {m : Me} {n d : Nat} {a : Ch} {K i v : Nat} {mb cb t : Nat → Nat} (hV : VV n d a) (hT : TM m n d a K mb cb) (hK : K ≤ 24) (hmb : ∀ j, j < K → mb j < n) (hi : i < K) (hv : v < 16) (ht : ∀ j, j < i → m.1 216 j = nI (t j) ∧ t j ≤ 16) :
    ∃ m', f_Mo_fits (nI i) (nI v) m = some (bI (!(anyB (fun k => decide (t k ≠ 16) && clB a (mb i) v (mb k) (t k) 0) i)), m') ∧ Fm SD m m' := by
  have h24 := hV.1
  unfold f_Mo_fits
  refine up aM i (fun k m' => (∀ u, u < k → (decide (t u ≠ 16) && clB a (mb i) v (mb u) (t u) 0) = false) ∧ Fm SD m m') (fun r => ∃ m', r = some (bI (!(anyB (fun k => decide (t k ≠ 16) && clB a (mb i) v (mb k) (t k) 0) i)), m') ∧ Fm SD m m') 0 m (by omega) (by unfold FU; omega) ⟨fun u hu => by omega, Fm.rf⟩ ?_ ?_
  · rintro f k m1 hk ⟨a1, f1⟩ ih
    show ∃ m', lb_Mo_fits_2 (nI i) (nI v) f (nI k) m1 = some (_, m') ∧ _
    unfold lb_Mo_fits_2
    have T1 := hT.fr f1 (fun o j q => Or.inl q)
    obtain ⟨t1, t2⟩ := ht k hk
    have t1' : m1.1 216 k = nI (t k) := by rw [f1 _ _ (by unfold SD; omega)]; exact t1
    rw [if_neg (nI_ge hk (by omega)), show ln 216 = 24 from rfl, rd_n (by omega) (by omega)]
    simp only [bd, nI_1, show ln 215 = 24 from rfl, rd_n (show i < 24 by omega) (show 24 < 2 ^ 31 by decide), rd_n (show k < 24 by omega) (show 24 < 2 ^ 31 by decide), t1', T1.2.2.2.1 i hi, T1.2.2.2.1 k (show k < K by omega)]
    have nx : ∀ m2, Fm SD m m2 → (decide (t k ≠ 16) && clB a (mb i) v (mb k) (t k) 0) = false → ∃ m', f (nI (k + 1)) m2 = some (bI (!(anyB (fun k => decide (t k ≠ 16) && clB a (mb i) v (mb k) (t k) 0) i)), m') ∧ Fm SD m m' := by
      intro m2 f2 hf
      refine ih m2 ⟨fun u hu => ?_, f2⟩
      by_cases q : u = k
      · subst q; exact hf
      · exact a1 u (by omega)
    by_cases c : t k = 16
    · rw [c, if_pos (show nI 16 = (16 : Int32) from rfl)]
      exact nx m1 f1 (by simp [c])
    · rw [if_neg (show ¬ nI (t k) = (16 : Int32) from nI_ne (b := 16) (by omega) (by decide) c)]
      obtain ⟨m2, e2, f2⟩ := doClash_eq (z := 0) hV T1.1 (hmb i hi) (hmb k (by omega)) hv (show t k < 16 by omega) (by omega)
      rw [show f_Mo_doClash (nI (mb i)) (nI v) (nI (mb k)) (nI (t k)) 0 m1 = _ from e2, cI_s]
      simp only [bI_z]
      cases hc : clB a (mb i) v (mb k) (t k) 0 with
      | false =>
        rw [if_pos rfl]
        exact nx m2 (f1.tr f2) (by rw [hc]; simp)
      | true =>
        rw [if_neg (by decide), anyB_t.mpr ⟨k, hk, by simp [c, hc]⟩]
        exact ⟨m2, rfl, f1.tr f2⟩
  · rintro f m1 ⟨a1, f1⟩
    show ∃ m', lb_Mo_fits_2 (nI i) (nI v) f (nI i) m1 = some (_, m') ∧ _
    unfold lb_Mo_fits_2
    rw [if_pos (nI_le (Nat.le_refl _) (by omega)), anyB_f.mpr a1]
    exact ⟨m1, rfl, f1⟩
def vaS (a : Ch) (mb : Nat → Nat) (q i s : Nat) (e : Nat → Nat) : Int := (s : Int) + vlr (fun j w => wgS a (mb j) w) q i e
def TQ (n d : Nat) (a : Ch) (mb t : Nat → Nat) (K q i s : Nat) (b : Int) (m : Me) (r : Option Me) : Prop :=
  ∃ (m' : Me) (b' : Int), r = some m' ∧ m'.1 200 32 = iI b' ∧ b' ≤ 5000000 ∧ b ≤ b' ∧ Fm STr m m' ∧ (∀ j, j < i → m'.1 216 j = m.1 216 j) ∧ UR K (VX n d a mb t i q) (vaS a mb q i s) b m b' m'
theorem wg_le {n d : Nat} {a : Ch} {k w : Nat} (hV : VV n d a) (hk : k < n) : wgS a k w ≤ 200000 := by
  unfold wgS
  split
  · omega
  · exact gaS_le hV hk
set_option maxHeartbeats 2000000 in
theorem try_ok {n d : Nat} {a : Ch} {K : Nat} {mb cb : Nat → Nat} (hV : VV n d a) (hK : K ≤ 24) (hmb : ∀ j, j < K → mb j < n) (hcb : ∀ i q e, i + q = K → (∀ j, i ≤ j → j < K → okN n d a (mb j) (e j)) → vlr (fun j w => wgS a (mb j) w) q i e ≤ cb i) (hcl : ∀ i, i ≤ K → cb i ≤ 4800000) (q : Nat) : ∀ (f i s : Nat) (b : Int) (t : Nat → Nat) (m : Me), q < f → i + q = K → TM m n d a K mb cb → (∀ j, j < i → m.1 216 j = nI (t j) ∧ t j ≤ 16) → m.1 200 32 = iI b → -1 ≤ b → b ≤ 5000000 → s ≤ 200000 * i →
    TQ n d a mb t K q i s b m (f_Mo_tryFrom f (nI i) (nI s) m) := by
  have h24 := hV.1
  induction q with
  | zero =>
    intro f i s b t m hf hi hT ht hb b1 b2 hs
    obtain ⟨f, rfl⟩ : ∃ k, f = k + 1 := ⟨f - 1, by omega⟩
    have iK : i = K := by omega
    subst iK
    show TQ n d a mb t i 0 i s b m (fb_Mo_tryFrom (f_Mo_tryFrom f) (nI i) (nI s) m)
    unfold fb_Mo_tryFrom
    rw [hT.2.2.1, if_pos rfl, hb, nI_i s]
    have cmp := b_le (x := (s : Int)) (y := b) (by omega) (by omega) (by omega) (by omega)
    have val0 : ∀ e, vaS a mb 0 i s e = s := fun e => by show (s : Int) + ((0 : Nat) : Int) = s; omega
    by_cases c : (s : Int) ≤ b
    · rw [if_pos (cmp.mpr c)]
      exact ⟨m, b, rfl, hb, b2, Int.le_refl _, Fm.rf, fun _ _ => rfl, Or.inl ⟨rfl, fun _ _ => rfl, fun e _ => by rw [val0]; exact c⟩⟩
    · rw [if_neg (fun w => c (cmp.mp w)), bdE]
      refine up aM i (fun k m' => (∀ j, j < k → m'.1 217 j = nI (t j)) ∧ Fm (fun o _ => o = 217) (si m 200 32 (iI (s : Int))) m') (TQ n d a mb t i 0 i s b m) 0 _ (by omega) (by unfold FU; omega) ⟨fun j hj => by omega, Fm.rf⟩ ?_ ?_
      · rintro g k m1 hk ⟨a1, f1⟩ ih
        show TQ n d a mb t i 0 i s b m (lb_Mo_tryFrom_23 g (nI k) m1)
        unfold lb_Mo_tryFrom_23
        rw [show m1.1 200 29 = nI i by rw [f1 _ _ (by omega), si1, if_neg (by omega)]; exact hT.2.2.1, if_neg (nI_ge hk (by omega)), show ln 216 = 24 from rfl, rd_n (by omega) (by omega), show m1.1 216 k = nI (t k) by rw [f1 _ _ (by omega), si1, if_neg (by omega)]; exact (ht k hk).1, show ln 217 = 24 from rfl, wi_n (by omega) (by omega), bdE, nI_1]
        refine ih _ ⟨fun j hj => ?_, f1.wr' rfl⟩
        rw [si1]
        by_cases z : j = k
        · rw [if_pos ⟨rfl, z⟩, z]
        · rw [if_neg (by omega)]; exact a1 j (by omega)
      · rintro g m1 ⟨a1, f1⟩
        show TQ n d a mb t i 0 i s b m (lb_Mo_tryFrom_23 g (nI i) m1)
        unfold lb_Mo_tryFrom_23
        rw [show m1.1 200 29 = nI i by rw [f1 _ _ (by omega), si1, if_neg (by omega)]; exact hT.2.2.1, if_pos (nI_le (Nat.le_refl _) (by omega))]
        refine ⟨m1, (s : Int), rfl, ?_, by omega, by omega, ?_, fun j hj => ?_, Or.inr ⟨by omega, t, ⟨fun j _ => rfl, fun j j1 j2 => by omega, fun j k j1 j2 j3 => by omega⟩, by rw [val0], a1, fun e' _ => by rw [val0]; exact Int.le_refl _, fun e' he _ k hk _ => by rw [he.1 k hk]; exact Nat.le_refl _⟩⟩
        · rw [f1 _ _ (by omega), si_s]
        · exact (Fm.wr (by unfold STr; omega)).tr (f1.mo (fun o j w => by unfold STr; omega))
        · rw [f1 _ _ (by omega), si1, if_neg (by omega)]
  | succ q IH =>
    intro f i s b t m hf hi hT ht hb b1 b2 hs
    obtain ⟨f, rfl⟩ : ∃ k, f = k + 1 := ⟨f - 1, by omega⟩
    have iK : i < K := by omega
    show TQ n d a mb t K (q + 1) i s b m (fb_Mo_tryFrom (f_Mo_tryFrom f) (nI i) (nI s) m)
    unfold fb_Mo_tryFrom
    have ci := hcl i (by omega)
    have mi := hmb i iK
    have cmp := b_lt (x := b) (y := (s : Int) + cb i) (by omega) (by omega) (by omega) (by omega)
    rw [hT.2.2.1, if_neg (nI_ne (by omega) (by omega) (by omega)), show ln 218 = 25 from rfl, rd_n (by omega) (by omega), hT.2.2.2.2 i (by omega), hb, show nI s + nI (cb i) = iI ((s : Int) + cb i) by rw [nI_i, nI_i, iI_add]]
    by_cases c : b < (s : Int) + cb i
    · rw [if_pos (cmp.mpr c), show ln 215 = 24 from rfl, rd_n (by omega) (by omega), hT.2.2.2.1 i iK, bdE]
      have before : ∀ x y e e', x < y → VX n d a mb t i (q + 1) e ∧ e i = x → VX n d a mb t i (q + 1) e' ∧ e' i = y → LX K e e' := by
        rintro x y e e' hxy ⟨v1, ex⟩ ⟨v2, ey⟩ k hk hag
        rcases Nat.lt_trichotomy k i with z | z | z
        · rw [v1.1 k z, v2.1 k z]; exact Nat.le_refl _
        · rw [z]; omega
        · have := hag i z; omega
      -- one option taken
      have one : ∀ (w : Nat) (m1 : Me) (br : Int), w ≤ 16 → okN n d a (mb i) w → (∀ k, k < i → t k ≠ 16 → w ≠ 16 → clB a (mb i) w (mb k) (t k) 0 = false) → TM m1 n d a K mb cb → (∀ j, j < i → m1.1 216 j = nI (t j)) → m1.1 200 32 = iI br → -1 ≤ br → br ≤ 5000000 →
          ∃ (m2 : Me) (b2 : Int), f_Mo_tryFrom f (nI (i + 1)) (nI (s + wgS a (mb i) w)) (si m1 216 i (nI w)) = some m2 ∧ m2.1 200 32 = iI b2 ∧ b2 ≤ 5000000 ∧ br ≤ b2 ∧ Fm STr m1 m2 ∧ (∀ j, j < i → m2.1 216 j = nI (t j)) ∧ UR K (fun e => VX n d a mb t i (q + 1) e ∧ e i = w) (vaS a mb (q + 1) i s) br m1 b2 m2 := by
        intro w m1 br hw ok fit T1 t1 hbr r1 r2
        obtain ⟨t', ts, tn⟩ : ∃ t' : Nat → Nat, t' i = w ∧ ∀ j, j ≠ i → t' j = t j := ⟨fun j => if j = i then w else t j, if_pos rfl, fun j h => if_neg h⟩
        have f1 : Fm STr m1 (si m1 216 i (nI w)) := Fm.wr (by unfold STr; omega)
        have wl := wg_le (w := w) hV mi
        obtain ⟨m2, b2, e2, p1, p2, p3, p4, p5, p6⟩ := IH f (i + 1) (s + wgS a (mb i) w) br t' (si m1 216 i (nI w)) (by omega) (by omega) (T1.fr f1 (fun o j z => z)) (fun j hj => by
          by_cases z : j = i
          · subst z; rw [si_s, ts]; exact ⟨rfl, hw⟩
          · rw [si1, if_neg (by omega), tn j z]
            exact ⟨t1 j (by omega), (ht j (by omega)).2⟩) (by rw [si1, if_neg (by omega)]; exact hbr) r1 r2 (by omega)
        refine ⟨m2, b2, e2, p1, p2, p3, f1.tr p4, fun j hj => by rw [p5 j (by omega), si1, if_neg (by omega)]; exact t1 j hj, ?_⟩
        have ve : ∀ e, (VX n d a mb t i (q + 1) e ∧ e i = w) ↔ VX n d a mb t' (i + 1) q e := by
          intro e
          constructor
          · rintro ⟨⟨v1, v2, v3⟩, ei⟩
            refine ⟨fun j hj => ?_, fun j j1 j2 => v2 j (by omega) (by omega), fun j k j1 j2 j3 => v3 j k j1 (by omega) (by omega)⟩
            by_cases z : j = i
            · rw [z, ei, ts]
            · rw [v1 j (by omega), tn j z]
          · rintro ⟨v1, v2, v3⟩
            have ei : e i = w := by rw [v1 i (by omega), ts]
            have et : ∀ j, j < i → e j = t j := fun j hj => by rw [v1 j (by omega), tn j (by omega)]
            refine ⟨⟨et, fun j j1 j2 => ?_, fun j k j1 j2 j3 n1 n2 => ?_⟩, ei⟩
            · by_cases z : j = i
              · rw [z, ei]; exact ok
              · exact v2 j (by omega) (by omega)
            · by_cases z : k = i
              · subst z
                rw [ei, et j j1]
                exact fit j j1 (by rw [← et j j1]; exact n1) (by rw [← ei]; exact n2)
              · exact v3 j k j1 (by omega) (by omega) n1 n2
        have U := UR_cg p6 ve
        have vv : ∀ e, (VX n d a mb t i (q + 1) e ∧ e i = w) → vaS a mb q (i + 1) (s + wgS a (mb i) w) e = vaS a mb (q + 1) i s e := by
          rintro e ⟨-, ei⟩
          show ((s + wgS a (mb i) w : Nat) : Int) + (vlr (fun j w => wgS a (mb j) w) q (i + 1) e : Nat) = (s : Int) + ((wgS a (mb i) (e i) + vlr (fun j w => wgS a (mb j) w) q (i + 1) e : Nat) : Int)
          rw [ei]
          omega
        rcases U with ⟨u1, u2, u3⟩ | ⟨u1, e, u2, u3, u4, u5, u6⟩
        · exact Or.inl ⟨u1, u2, fun e he => by rw [← vv e he]; exact u3 e he⟩
        · exact Or.inr ⟨u1, e, u2, by rw [← vv e u2]; exact u3, u4, fun e' he => by rw [← vv e' he]; exact u5 e' he, fun e' he hv => u6 e' he (by rw [vv e' he]; exact hv)⟩
      refine up aM 16 (fun v m' => ∃ bv : Int, m'.1 200 32 = iI bv ∧ bv ≤ 5000000 ∧ b ≤ bv ∧ Fm STr m m' ∧ (∀ j, j < i → m'.1 216 j = nI (t j)) ∧ UR K (fun e => VX n d a mb t i (q + 1) e ∧ e i < v) (vaS a mb (q + 1) i s) b m bv m') (TQ n d a mb t K (q + 1) i s b m) 0 m (by omega) (by unfold FU; omega) ⟨b, hb, b2, Int.le_refl _, Fm.rf, fun j hj => (ht j hj).1, Or.inl ⟨rfl, fun _ _ => rfl, fun e he => by have := he.2; omega⟩⟩ ?_ ?_
      · rintro g v m1 hv ⟨bv, p1, p2, p3, p4, p5, p6⟩ ih
        show TQ n d a mb t K (q + 1) i s b m (lb_Mo_tryFrom_76 (nI i) (nI s) (f_Mo_tryFrom f) (nI (mb i)) _ g (nI v) m1)
        unfold lb_Mo_tryFrom_76
        have T1 := hT.fr p4 (fun o j z => z)
        rw [if_neg (show ¬ (16 : Int32) ≤ nI v from nI_ge (b := 16) hv (by decide)), show (16 : Int32) * nI (mb i) = nI (16 * mb i) from pk_mul 16 _, nI_add, show ln 214 = 384 from rfl, rd_n (by omega) (by omega), T1.2.1 (mb i) v mi hv, bdE]
        simp only [bI_z]
        have skip : ∀ m2, Fm SD m1 m2 → (∀ e, VX n d a mb t i (q + 1) e → e i ≠ v) → TQ n d a mb t K (q + 1) i s b m (g (nI (v + 1)) m2) := by
          intro m2 f2 hno
          refine ih m2 ⟨bv, by rw [f2 _ _ (by unfold SD; omega)]; exact p1, p2, p3, p4.tr (f2.mo (fun o j z => Or.inl z)), fun j hj => by rw [f2 _ _ (by unfold SD; omega)]; exact p5 j hj, ?_⟩
          have U := UR_cg (V' := fun e => VX n d a mb t i (q + 1) e ∧ e i < v + 1) p6 (fun e => ⟨fun z => ⟨z.1, by have := hno e z.1; omega⟩, fun z => ⟨z.1, by omega⟩⟩)
          rcases U with ⟨u1, u2, u3⟩ | ⟨u1, e, u2, u3, u4, u5, u6⟩
          · exact Or.inl ⟨u1, fun j hj => by rw [f2 _ _ (by unfold SD; omega)]; exact u2 j hj, u3⟩
          · exact Or.inr ⟨u1, e, u2, u3, fun j hj => by rw [f2 _ _ (by unfold SD; omega)]; exact u4 j hj, u5, u6⟩
        cases ho : owB n d a (mb i) v with
        | false =>
          rw [if_pos rfl, bdE, nI_1]
          refine skip m1 Fm.rf (fun e he ei => ?_)
          rcases he.2.1 i (Nat.le_refl _) (by omega) with z | z
          · omega
          · rw [ei, ho] at z; cases z.2
        | true =>
          rw [if_neg (by decide)]
          obtain ⟨m2, e2, f2⟩ := moFits_eq (m := m1) (v := v) (t := t) hV T1 hK hmb iK hv (fun j hj => ⟨p5 j hj, (ht j hj).2⟩)
          rw [e2, cI_s]
          simp only [bI_z]
          cases hfit : anyB (fun k => decide (t k ≠ 16) && clB a (mb i) v (mb k) (t k) 0) i with
          | true =>
            rw [if_pos (show (!true) = false from rfl), bdE, nI_1]
            refine skip m2 f2 (fun e he ei => ?_)
            obtain ⟨k, hk, z⟩ := anyB_t.mp hfit
            rw [Bool.and_eq_true] at z
            have := he.2.2 k i hk (Nat.le_refl _) (by omega) (by rw [he.1 k hk]; exact of_decide_eq_true z.1) (by omega)
            rw [ei, he.1 k hk, z.2] at this
            cases this
          | false =>
            rw [if_neg (show ¬ (!false) = false by decide)]
            have T2 := T1.fr f2 (fun o j z => Or.inl z)
            have ff : Fm STr m1 m2 := f2.mo (fun o j z => Or.inl z)
            have fM : MM (si m2 216 i (nI v)) n d a := (T2.fr (Fm.wr (S := STr) (m := m2) (o := 216) (j := i) (v := nI v) (by unfold STr; omega)) (fun o j z => z)).1
            rw [show ln 216 = 24 from rfl, wi_n (by omega) (by omega), moWorth_eq hV fM mi hv, cP_s, show nI i + (1 : Int32) = nI (i + 1) from nI_1 _, nI_add]
            obtain ⟨m3, b3, e3, t1, t2, t3, t4, t5, t6⟩ := one v m2 bv (by omega) (Or.inr ⟨hv, ho⟩) (fun k hk nk _ => by
              have := anyB_f.mp hfit k hk
              simp only [nk, ne_eq, not_false_eq_true, decide_true, Bool.true_and] at this
              exact this) T2 (fun j hj => by rw [f2 _ _ (by unfold SD; omega)]; exact p5 j hj) (by rw [f2 _ _ (by unfold SD; omega)]; exact p1) (by omega) p2
            rw [show wgS a (mb i) v = gaS a (mb i) v by unfold wgS; rw [if_neg (by omega)]] at e3
            rw [e3, cP_s, bdE, nI_1]
            refine ih m3 ⟨b3, t1, t2, by omega, (p4.tr ff).tr t4, t5, ?_⟩
            have U1 : UR K (fun e => VX n d a mb t i (q + 1) e ∧ e i < v) (vaS a mb (q + 1) i s) b m bv m2 := by
              rcases p6 with ⟨u1, u2, u3⟩ | ⟨u1, e, u2, u3, u4, u5, u6⟩
              · exact Or.inl ⟨u1, fun j hj => by rw [f2 _ _ (by unfold SD; omega)]; exact u2 j hj, u3⟩
              · exact Or.inr ⟨u1, e, u2, u3, fun j hj => by rw [f2 _ _ (by unfold SD; omega)]; exact u4 j hj, u5, u6⟩
            refine UR_cg (UR_two U1 t6 (fun e e' z1 z2 => before (e i) v e e' z1.2 ⟨z1.1, rfl⟩ z2)) (fun e => ⟨fun z => ?_, fun z => ?_⟩)
            · by_cases w : e i = v
              · exact Or.inr ⟨z.1, w⟩
              · exact Or.inl ⟨z.1, by have := z.2; omega⟩
            · rcases z with z | z
              · exact ⟨z.1, by have := z.2; omega⟩
              · exact ⟨z.1, by have := z.2; omega⟩
      · rintro g m1 ⟨bv, p1, p2, p3, p4, p5, p6⟩
        show TQ n d a mb t K (q + 1) i s b m (lb_Mo_tryFrom_76 (nI i) (nI s) (f_Mo_tryFrom f) (nI (mb i)) _ g (nI 16) m1)
        unfold lb_Mo_tryFrom_76
        have T1 := hT.fr p4 (fun o j z => z)
        have h3 := (hV.2.2.1 _ mi).1.1
        have le16 : ∀ e, VX n d a mb t i (q + 1) e → e i ≤ 16 := fun e he => by
          rcases he.2.1 i (Nat.le_refl _) (by omega) with z | z <;> omega
        rw [if_pos (show (16 : Int32) ≤ nI 16 by decide)]
        simp only []
        rw [show ln 201 = 24 from rfl, rd_n (by omega) (by omega), (T1.1.nm mi).1]
        by_cases c3 : a 1 (mb i) = 3
        · rw [if_pos (show nI (a 1 (mb i)) = (3 : Int32) by rw [c3]; rfl)]
          refine ⟨m1, bv, rfl, p1, p2, p3, p4, fun j hj => by rw [p5 j hj, (ht j hj).1], UR_cg p6 (fun e => ⟨fun z => ⟨z, ?_⟩, fun z => z.1⟩)⟩
          rcases z.2.1 i (Nat.le_refl _) (by omega) with w | w
          · exact absurd c3 w.2
          · exact w.1
        · rw [if_neg (show ¬ nI (a 1 (mb i)) = (3 : Int32) from nI_ne (b := 3) (by omega) (by decide) c3), show ln 216 = 24 from rfl, wi_n (by omega) (by omega), show nI i + (1 : Int32) = nI (i + 1) from nI_1 _]
          obtain ⟨m3, b3, e3, t1, t2, t3, t4, t5, t6⟩ := one 16 m1 bv (by omega) (Or.inl ⟨rfl, c3⟩) (fun k hk _ z => absurd rfl z) T1 p5 p1 (by omega) p2
          rw [show wgS a (mb i) 16 = 0 by unfold wgS; rw [if_pos rfl]] at e3
          rw [show f_Mo_tryFrom f (nI (i + 1)) (nI s) (si m1 216 i 16) = some m3 from e3, cP_s]
          refine ⟨m3, b3, rfl, t1, t2, by omega, p4.tr t4, fun j hj => by rw [t5 j hj, (ht j hj).1], UR_cg (UR_two p6 t6 (fun e e' z1 z2 => before (e i) 16 e e' z1.2 ⟨z1.1, rfl⟩ z2)) (fun e => ⟨fun z => ?_, fun z => ?_⟩)⟩
          · have := le16 e z
            by_cases w : e i = 16
            · exact Or.inr ⟨z, w⟩
            · exact Or.inl ⟨z, by omega⟩
          · rcases z with z | z
            · exact z.1
            · exact z.1
    · rw [if_neg (fun w => c (cmp.mp w))]
      refine ⟨m, b, rfl, hb, b2, Int.le_refl _, Fm.rf, fun _ _ => rfl, Or.inl ⟨rfl, fun _ _ => rfl, fun e he => ?_⟩⟩
      have := hcb i (q + 1) e (by omega) (fun j j1 j2 => he.2.1 j j1 (by omega))
      show (s : Int) + (vlr (fun j w => wgS a (mb j) w) (q + 1) i e : Nat) ≤ b
      omega
