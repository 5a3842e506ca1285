/-! PURE PART, BEST: the reference's part -/
def mxF (f : Nat → Nat) : Nat → Nat
  | 0 => 0
  | v + 1 => if f v ≤ mxF f v then mxF f v else f v
theorem mxF_ge {f : Nat → Nat} {n v : Nat} (h : v < n) : f v ≤ mxF f n := by
  induction n with
  | zero => omega
  | succ n ih =>
    show f v ≤ (if f n ≤ mxF f n then mxF f n else f n)
    by_cases e : v = n
    · subst e; split <;> omega
    · have := ih (by omega); split <;> omega
theorem mxF_le {f : Nat → Nat} {n B : Nat} (h : ∀ v, v < n → f v ≤ B) : mxF f n ≤ B := by
  induction n with
  | zero => exact Nat.zero_le _
  | succ n ih =>
    show (if f n ≤ mxF f n then mxF f n else f n) ≤ B
    have := ih (fun v hv => h v (by omega))
    have := h n (by omega)
    split <;> omega
noncomputable def owW (n d : Nat) (a : Ch) (k v : Nat) : Nat := if owB n d a k v = true then gaS a k v else 0
noncomputable def cbS (n d : Nat) (a : Ch) (mb : Nat → Nat) (K j : Nat) : Nat := sumS (fun t => mxF (owW n d a (mb (j + t))) 16) (K - j)
theorem sum_sh (f : Nat → Nat) (j q : Nat) : sumS (fun t => f (j + t)) (q + 1) = f j + sumS (fun t => f (j + 1 + t)) q := by
  induction q with
  | zero => show 0 + f (j + 0) = f j + 0; simp
  | succ q ih =>
    show sumS (fun t => f (j + t)) (q + 1) + f (j + (q + 1)) = f j + (sumS (fun t => f (j + 1 + t)) q + f (j + 1 + q))
    rw [ih, show j + (q + 1) = j + 1 + q by omega]
    omega
theorem cb_st {n d : Nat} {a : Ch} {mb : Nat → Nat} {K j : Nat} (h : j < K) : cbS n d a mb K j = mxF (owW n d a (mb j)) 16 + cbS n d a mb K (j + 1) := by
  unfold cbS
  rw [show K - j = (K - (j + 1)) + 1 by omega]
  exact sum_sh (fun t => mxF (owW n d a (mb t)) 16) j (K - (j + 1))
theorem cb_bd {n d : Nat} {a : Ch} {mb : Nat → Nat} {K : Nat} : ∀ i q e, i + q = K → (∀ j, i ≤ j → j < K → okN n d a (mb j) (e j)) → vlr (fun j w => wgS a (mb j) w) q i e ≤ cbS n d a mb K i := by
  intro i q e
  induction q generalizing i with
  | zero => intro _ _; exact Nat.zero_le _
  | succ q ih =>
    intro h ok
    show wgS a (mb i) (e i) + vlr (fun j w => wgS a (mb j) w) q (i + 1) e ≤ _
    rw [cb_st (show i < K by omega)]
    have h1 := ih (i + 1) (by omega) (fun j j1 j2 => ok j (by omega) j2)
    have h2 : wgS a (mb i) (e i) ≤ mxF (owW n d a (mb i)) 16 := by
      unfold wgS
      rcases ok i (Nat.le_refl _) (by omega) with w | w
      · rw [if_pos w.1]; exact Nat.zero_le _
      · rw [if_neg (by omega)]
        have := mxF_ge (f := owW n d a (mb i)) w.1
        unfold owW at this
        rw [if_pos w.2] at this
        exact this
    omega
theorem bo77 {m : Me} {n d : Nat} {a : Ch} {k i : Nat} {Kt : Int32 → Option (Int32 × Me)} {Q : Option (Int32 × Me) → Prop} (hV : VV n d a) (hM : MM m n d a) (hO : FO m n d a) (hi : i < 24) (hk : k < n) (h215 : m.1 215 i = nI k) (hK : Q (Kt (nI (mxF (owW n d a k) 16)))) : Q ((fx (lb_Mo_bestOf_77 (nI i) m Kt) (fun _ _ => none) FU) 0 0) := by
  have h24 := hV.1
  have ob : ∀ v, owW n d a k v ≤ 200000 := fun v => by unfold owW; split; exact gaS_le hV hk; omega
  refine up aV 16 (fun v s => s = nI (mxF (owW n d a k) v)) Q 0 0 (by omega) (by unfold FU; omega) rfl ?_ ?_
  · intro f v s hv hs ih
    have hs : s = nI (mxF (owW n d a k) v) := hs
    subst hs
    show Q (lb_Mo_bestOf_77 (nI i) m Kt f _ (nI v))
    unfold lb_Mo_bestOf_77
    have mb := mxF_le (f := owW n d a k) (n := v) (B := 200000) (fun v _ => ob v)
    have oc := ob v
    rw [if_neg (show ¬ (16 : Int32) ≤ nI v from nI_ge (b := 16) hv (by decide)), show ln 215 = 24 from rfl, rd_n hi (by omega), h215, show (16 : Int32) * nI k = nI (16 * k) from pk_mul 16 k, nI_add, show ln 214 = 384 from rfl, rd_n (by omega) (by omega), hO k v hk hv]
    simp only [bd, bI_z, nI_1, rd_n hi (show 24 < 2 ^ 31 by decide), h215]
    have e : mxF (owW n d a k) (v + 1) = if owW n d a k v ≤ mxF (owW n d a k) v then mxF (owW n d a k) v else owW n d a k v := rfl
    have nx : ∀ x, x = owW n d a k v → Q (if nI x ≤ nI (mxF (owW n d a k) v) then f (nI (mxF (owW n d a k) v)) (nI (v + 1)) else f (nI x) (nI (v + 1))) := by
      rintro x rfl
      by_cases c : owW n d a k v ≤ mxF (owW n d a k) v
      · rw [if_pos (nI_le c (by omega))]
        rw [if_pos c] at e
        exact ih _ (by rw [e])
      · rw [if_neg (nI_ge (by omega) (by omega))]
        rw [if_neg c] at e
        exact ih _ (by rw [e])
    cases ho : owB n d a k v with
    | false =>
      rw [if_pos rfl]
      exact nx 0 (by unfold owW; rw [ho]; rfl)
    | true =>
      rw [if_neg (by decide), moWorth_eq hV hM hk hv, cP_s]
      exact nx _ (by unfold owW; rw [ho]; rfl)
  · intro f s hs
    have hs : s = nI (mxF (owW n d a k) 16) := hs
    subst hs
    show Q (lb_Mo_bestOf_77 (nI i) m Kt f _ (nI 16))
    unfold lb_Mo_bestOf_77
    rw [if_pos (show (16 : Int32) ≤ nI 16 by decide)]
    exact hK
def S218 (o : Nat) (_ : Nat) : Prop := o = 218
theorem bo68 {m : Me} {n d : Nat} {a : Ch} {K : Nat} {mb : Nat → Nat} {Kt : Me → Option (Int32 × Me)} {Q : Option (Int32 × Me) → Prop} (hV : VV n d a) (hM : MM m n d a) (hO : FO m n d a) (hK : K ≤ 24) (hmb : ∀ j, j < K → mb j < n ∧ m.1 215 j = nI (mb j)) (h0 : m.1 218 K = nI 0) (hKt : ∀ m' : Me, Fm S218 m m' → (∀ j, j ≤ K → m'.1 218 j = nI (cbS n d a mb K j)) → Q (Kt m')) : Q ((fx (lb_Mo_bestOf_68 Kt) (fun _ _ => none) FU) (iI ((K : Int) - 1)) m) := by
  refine dn (fun (f : Int32 → Me → Option (Int32 × Me)) t (s : Me) => f (iI ((t : Int) - 1)) s) (fun t m' => t ≤ K ∧ Fm S218 m m' ∧ ∀ j, t ≤ j → j ≤ K → m'.1 218 j = nI (cbS n d a mb K j)) Q K m (by unfold FU; omega) ⟨Nat.le_refl _, Fm.rf, fun j j1 j2 => ?_⟩ ?_ ?_
  · have : j = K := by omega
    subst this
    rw [h0]
    unfold cbS
    rw [Nat.sub_self]
    rfl
  · rintro f t m1 ⟨tK, f1, a1⟩ ih
    show Q (lb_Mo_bestOf_68 Kt f (iI (((t + 1 : Nat) : Int) - 1)) m1)
    unfold lb_Mo_bestOf_68
    rw [show iI (((t + 1 : Nat) : Int) - 1) = nI t by rw [nI_i]; congr 1; omega, if_neg (nI_pos (by omega)), bdE]
    obtain ⟨b1, b2⟩ := hmb t (by omega)
    refine bo77 (k := mb t) hV (hM.fr f1 (by unfold S218; omega) (by unfold S218; omega) (fun o j _ _ => by unfold S218; omega)) (hO.fr f1 (fun j => by unfold S218; omega)) (by omega) b1 (by rw [f1 _ _ (by unfold S218; omega)]; exact b2) ?_
    rw [show nI t + (1 : Int32) = nI (t + 1) from nI_1 _, show ln 218 = 25 from rfl, rd_n (by omega) (by omega), a1 (t + 1) (by omega) (by omega), wi_n (by omega) (by omega), bdE, nI_add, show nI t + Int32.ofInt (-1) = iI ((t : Int) - 1) by rw [nI_i]; exact iI_add _ (-1)]
    refine ih _ ⟨by omega, f1.wr' rfl, fun j j1 j2 => ?_⟩
    rw [si1]
    by_cases e : j = t
    · subst e
      rw [if_pos ⟨rfl, rfl⟩, show cbS n d a mb K j = mxF (owW n d a (mb j)) 16 + cbS n d a mb K (j + 1) from cb_st (by omega)]
      congr 1
      omega
    · rw [if_neg (by omega)]; exact a1 j (by omega) j2
  · rintro f m1 ⟨tK, f1, a1⟩
    show Q (lb_Mo_bestOf_68 Kt f (iI (((0 : Nat) : Int) - 1)) m1)
    unfold lb_Mo_bestOf_68
    rw [if_pos (show iI (((0 : Nat) : Int) - 1) < 0 by decide)]
    exact hKt m1 f1 (fun j hj => a1 j (by omega) hj)
def SBo (o j : Nat) : Prop := SD o j ∨ (o = 200 ∧ (j = 29 ∨ j = 32)) ∨ o = 215 ∨ o = 216 ∨ o = 217 ∨ o = 218
def MPq (n d : Nat) (a : Ch) (P : Nat → Bool) (m : Me) (r : Option (Int32 × Me)) : Prop :=
  ∃ m' : Me, Fm SBo m m' ∧ ((r = some (0, m') ∧ ∀ σ, ¬ VS n d a P σ) ∨ ∃ (σ : Nat → Nat) (W K : Nat) (mb : Nat → Nat), r = some (1, m') ∧ LB n d a P σ W ∧ EN (fun u => u) P n K mb ∧ m'.1 200 29 = nI K ∧ K ≤ 24 ∧ (∀ j, j < K → m'.1 215 j = nI (mb j) ∧ m'.1 217 j = nI (σ (mb j)) ∧ σ (mb j) ≤ 16))
set_option maxHeartbeats 1000000 in
theorem bo_end {m0 m : Me} {n d : Nat} {a : Ch} {P : Nat → Bool} {K : Nat} {mb : Nat → Nat} (hV : VV n d a) (hM : MM m n d a) (hO : FO m n d a) (en : EN (fun u => u) P n K mb) (inc : ∀ j j', j < j' → j' < K → mb j < mb j') (h29 : m.1 200 29 = nI K) (h215 : ∀ j, j < K → m.1 215 j = nI (mb j)) (hcb : ∀ j, j ≤ K → m.1 218 j = nI (cbS n d a mb K j)) (f0 : Fm SBo m0 m) :
    MPq n d a P m0 (bd (si m 200 32 (-1 : Int32)) (fun m6 => cP (f_Mo_tryFrom 30 (0 : Int32) (0 : Int32) m6) (fun m7 => if (m7.1 200 32) < 0 then some ((0 : Int32), m7) else some ((1 : Int32), m7)))) := by
  have h24 := hV.1
  have Kc := cnt_le (fun u => P u) n
  have K24 : K ≤ 24 := by
    have : K ≤ n := by rw [en.2.2.2.1]; exact cnt_le _ n
    omega
  have hmb : ∀ j, j < K → mb j < n := fun j hj => by
    obtain ⟨u, u1, u2, -⟩ := en.1 j hj
    rw [u2]; exact u1
  have Pm : ∀ j, j < K → P (mb j) = true := fun j hj => by
    obtain ⟨u, u1, u2, u3⟩ := en.1 j hj
    rw [u2]; exact u3
  have idx : ∀ k, k < n → P k = true → ∃ j, j < K ∧ mb j = k := fun k hk hp => en.2.1 k hk hp
  have cbl : ∀ i, i ≤ K → cbS n d a mb K i ≤ 4800000 := fun i hi => by
    unfold cbS
    have := sum_le (f := fun t => mxF (owW n d a (mb (i + t))) 16) (B := 200000) (n := K - i) (fun t ht => mxF_le (fun v _ => by
      unfold owW
      split
      · exact gaS_le hV (hmb _ (by omega))
      · omega))
    have : 200000 * (K - i) ≤ 200000 * 24 := Nat.mul_le_mul_left _ (by omega)
    omega
  have f6 : Fm SBo m (si m 200 32 (-1)) := Fm.wr (by unfold SBo; omega)
  have T6 : TM (si m 200 32 (-1)) n d a K mb (cbS n d a mb K) := by
    refine ⟨hM.fr f6 (by unfold SBo SD; omega) (by unfold SBo SD; omega) (fun o j _ _ => by unfold SBo SD; omega), hO.fr f6 (fun j => by unfold SBo SD; omega), ?_, fun j hj => ?_, fun j hj => ?_⟩
    · rw [si1, if_neg (by omega)]; exact h29
    · rw [si1, if_neg (by omega)]; exact h215 j hj
    · rw [si1, if_neg (by omega)]; exact hcb j hj
  rw [bdE]
  obtain ⟨m7, b', e7, p1, p2, p3, p4, p5, p6⟩ := try_ok hV K24 hmb cb_bd cbl K 30 0 0 (-1) (fun _ => 0) (si m 200 32 (-1)) (by omega) (by omega) T6 (fun j hj => by omega) (by rw [si_s]; rfl) (by omega) (by omega) (by omega)
  rw [show f_Mo_tryFrom 30 0 0 (si m 200 32 (-1)) = some m7 from e7, cP_s, p1]
  have T7 := T6.fr p4 (fun o j z => z)
  have ff : Fm SBo m0 m7 := (f0.tr f6).tr (p4.mo (fun o j z => by
    unfold STr at z
    unfold SBo
    rcases z with z | z
    · exact Or.inl z
    · omega))
  -- names and indices
  have vE : ∀ σ, VS n d a P σ → VX n d a mb (fun _ => 0) 0 K (fun j => σ (mb j)) := fun σ hv => ⟨fun j hj => by omega, fun j _ hj => hv.1 _ (hmb j (by omega)) (Pm j (by omega)), fun j k jk _ hk nj nk => hv.2 _ _ (hmb k (by omega)) (hmb j (by omega)) (Pm k (by omega)) (Pm j (by omega)) (fun z => by have := inc j k jk (by omega); omega) nk nj⟩
  have vV : ∀ (σ e : Nat → Nat), (∀ j, j < K → σ (mb j) = e j) → vaS a mb K 0 0 e = (VL n a P σ : Int) := fun σ e he => by
    unfold vaS VL
    rw [vl_sum, ← en.2.2.2.2 (fun k => wgS a k (σ k))]
    have : sumS (fun j => wgS a (mb j) (e j)) K = sumS (fun j => wgS a (mb j) (σ (mb j))) K := sum_cg (fun j hj => by rw [he j hj])
    rw [this]
    omega
  have vN : ∀ e : Nat → Nat, VX n d a mb (fun _ => 0) 0 K e → ∀ σ : Nat → Nat, (∀ j, j < K → σ (mb j) = e j) → VS n d a P σ := fun e he σ hσ => by
    refine ⟨fun k hk hp => ?_, fun k l hk hl hp hpl hne nk nl => ?_⟩
    · obtain ⟨j, hj, rfl⟩ := idx k hk hp
      rw [hσ j hj]; exact he.2.1 j (by omega) (by omega)
    · obtain ⟨j, hj, rfl⟩ := idx k hk hp
      obtain ⟨i, hi, rfl⟩ := idx l hl hpl
      rw [hσ j hj] at nk ⊢
      rw [hσ i hi] at nl ⊢
      have ji : j ≠ i := fun z => hne (by rw [z])
      rcases Nat.lt_or_gt_of_ne ji with z | z
      · rw [clB_sym]
        exact he.2.2 j i z (by omega) (by omega) nk nl
      · exact he.2.2 i j z (by omega) (by omega) nl nk
  rcases p6 with ⟨u1, u2, u3⟩ | ⟨u1, e, u2, u3, u4, u5, u6⟩
  · refine ⟨m7, ff, Or.inl ⟨?_, fun σ hv => ?_⟩⟩
    · rw [u1, if_pos (show iI (-1) < 0 by decide)]
    · have := u3 _ (vE σ hv)
      rw [vV σ _ (fun j _ => rfl)] at this
      omega
  · obtain ⟨σ, hσ⟩ : ∃ σ : Nat → Nat, ∀ j, j < K → σ (mb j) = e j := ⟨fun k => e (lsN K mb k), fun j hj => by
      show e (lsN K mb (mb j)) = e j
      rw [lsN_eq en.2.2.1 hj]⟩
    have hv := vN e u2 σ hσ
    have vW := vV σ e hσ
    refine ⟨m7, ff, Or.inr ⟨σ, VL n a P σ, K, mb, ?_, ⟨hv, rfl, fun τ hτ => ?_, fun τ hτ hW k hk hp hag => ?_⟩, en, T7.2.2.1, K24, fun j hj => ⟨T7.2.2.2.1 j hj, by rw [hσ j hj]; exact u4 j hj, ?_⟩⟩⟩
    · rw [if_neg]
      rw [(b_lt0 (x := b') (by omega) (by omega)).1]
      omega
    · have := u5 _ (vE τ hτ)
      rw [vV τ _ (fun j _ => rfl), u3, vW] at this
      omega
    · obtain ⟨j, hj, rfl⟩ := idx k hk hp
      rw [hσ j hj]
      refine u6 _ (vE τ hτ) (by rw [vV τ _ (fun j _ => rfl), u3, vW, hW]) j hj (fun i hi => ?_)
      show τ (mb i) = e i
      rw [hag (mb i) (inc i j hi hj) (Pm i (by omega)), hσ i (by omega)]
    · rw [hσ j hj]
      rcases u2.2.1 j (by omega) (by omega) with z | z <;> omega
set_option maxHeartbeats 1000000 in
theorem bestOf_ok {m : Me} {n d : Nat} {a : Ch} {C : Nat → Nat} {p : Nat} (hV : VV n d a) (hM : MM m n d a) (hO : FO m n d a) (hC : ∀ k, k < n → m.1 213 k = nI (C k) ∧ C k ≤ 24) (hp : p ≤ 24) : MPq n d a (fun k => decide (C k = p)) m (f_Mo_bestOf (nI p) m) := by
  have h24 := hV.1
  unfold f_Mo_bestOf
  rw [bdE, bdE]
  refine up aM n (fun t m' => ∃ (K : Nat) (mb : Nat → Nat), EN (fun u => u) (fun k => decide (C k = p)) t K mb ∧ (∀ j j', j < j' → j' < K → mb j < mb j') ∧ (∀ j, j < K → mb j < t) ∧ m'.1 200 29 = nI K ∧ (∀ j, j < K → m'.1 215 j = nI (mb j)) ∧ Fm SBo m m') (MPq n d a (fun k => decide (C k = p)) m) 0 _ (by omega) (by unfold FU; omega) ⟨0, fun _ => 0, EN_0, fun j j' h1 h2 => by omega, fun j hj => by omega, si_s, fun j hj => by omega, Fm.wr (by unfold SBo; omega)⟩ ?_ ?_
  · rintro f t m1 ht ⟨K, mb, en, inc, lt, k29, k215, f1⟩ ih
    show MPq n d a (fun k => decide (C k = p)) m (lb_Mo_bestOf_7 (nI p) _ f (nI t) m1)
    unfold lb_Mo_bestOf_7
    have M1 : MM m1 n d a := hM.fr f1 (by unfold SBo SD; omega) (by unfold SBo SD; omega) (fun o j _ _ => by unfold SBo SD; omega)
    obtain ⟨c1, c2⟩ := hC t ht
    have Kt : K ≤ t := by rw [en.2.2.2.1]; exact cnt_le _ t
    rw [M1.1, if_neg (nI_ge ht (by omega)), show ln 213 = 24 from rfl, rd_n (by omega) (by omega), show m1.1 213 t = nI (C t) by rw [f1 _ _ (by unfold SBo SD; omega)]; exact c1, bdE]
    by_cases e : C t = p
    · rw [if_pos (by rw [e]), k29, show ln 215 = 24 from rfl, wi_n (by omega) (by omega), bdE, show (si m1 215 K (nI t)).1 200 29 = nI K by rw [si1, if_neg (by omega)]; exact k29, show nI K + (1 : Int32) = nI (K + 1) from nI_1 _]
      simp only []
      rw [bdE, nI_1]
      refine ih _ ⟨K + 1, fun j => if j = K then t else mb j, EN_y en (by simp [e]) (fun u hu => by show u ≠ t; omega), fun j j' h1 h2 => ?_, fun j hj => ?_, si_s, fun j hj => ?_, (f1.wr' (by unfold SBo; omega)).wr' (by unfold SBo; omega)⟩
      · show (if j = K then t else mb j) < (if j' = K then t else mb j')
        rw [if_neg (by omega)]
        by_cases z : j' = K
        · rw [if_pos z]; exact lt j (by omega)
        · rw [if_neg z]; exact inc j j' h1 (by omega)
      · show (if j = K then t else mb j) < t + 1
        split
        · omega
        · have := lt j (by omega); omega
      · show _ = nI (if j = K then t else mb j)
        rw [si1, if_neg (by omega), si1]
        by_cases z : j = K
        · rw [if_pos ⟨rfl, z⟩, if_pos z]
        · rw [if_neg (by omega), if_neg z]; exact k215 j (by omega)
    · rw [if_neg (nI_ne (by omega) (by omega) e)]
      simp only []
      rw [bdE, nI_1]
      exact ih m1 ⟨K, mb, EN_n en (by simp [e]), inc, fun j hj => by have := lt j hj; omega, k29, k215, f1⟩
  · rintro f m1 ⟨K, mb, en, inc, lt, k29, k215, f1⟩
    show MPq n d a (fun k => decide (C k = p)) m (lb_Mo_bestOf_7 (nI p) _ f (nI n) m1)
    unfold lb_Mo_bestOf_7
    have M1 : MM m1 n d a := hM.fr f1 (by unfold SBo SD; omega) (by unfold SBo SD; omega) (fun o j _ _ => by unfold SBo SD; omega)
    have O1 := hO.fr f1 (fun j => by unfold SBo SD; omega)
    have Kn : K ≤ n := by rw [en.2.2.2.1]; exact cnt_le _ n
    rw [M1.1, if_pos (nI_le (Nat.le_refl _) (by omega))]
    simp only []
    rw [k29, show ln 218 = 25 from rfl, wi_n (by omega) (by omega), bdE, bdE, show (si m1 218 K 0).1 200 29 = nI K by rw [si1, if_neg (by omega)]; exact k29, show nI K - (1 : Int32) = iI ((K : Int) - 1) by rw [nI_i]; exact iI_sub _ 1]
    have f2 : Fm S218 m1 (si m1 218 K 0) := Fm.wr rfl
    refine bo68 (mb := mb) hV (M1.fr f2 (by unfold S218; omega) (by unfold S218; omega) (fun o j _ _ => by unfold S218; omega)) (O1.fr f2 (fun j => by unfold S218; omega)) (by omega) (fun j hj => ⟨lt j hj, by rw [si1, if_neg (by omega)]; exact k215 j hj⟩) (by rw [si_s]; rfl) ?_
    intro m3 f3 hcb
    have f23 : Fm S218 m1 m3 := f2.tr f3
    exact bo_end hV (M1.fr f23 (by unfold S218; omega) (by unfold S218; omega) (fun o j _ _ => by unfold S218; omega)) (O1.fr f23 (fun j => by unfold S218; omega)) en inc (by rw [f23 _ _ (by unfold S218; omega)]; exact k29) (fun j hj => by rw [f23 _ _ (by unfold S218; omega)]; exact k215 j hj) hcb (f1.tr (f23.mo (fun o j z => by unfold S218 at z; unfold SBo; omega)))
