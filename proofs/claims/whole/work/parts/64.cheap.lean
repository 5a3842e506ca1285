/-! PURE PART: the cheapest way; slack -/
def chF (ok : Nat → Bool) (pr : Nat → Nat) : Nat → Nat
  | 0 => 16
  | v + 1 => if ok v = true ∧ (chF ok pr v = 16 ∨ pr v < pr (chF ok pr v)) then v else chF ok pr v
theorem chF_ch {ok : Nat → Bool} {pr : Nat → Nat} {W : Nat} (hW : W ≤ 16) : (chF ok pr W = 16 ∧ ∀ v, v < W → ok v = false) ∨ (chF ok pr W < W ∧ ok (chF ok pr W) = true ∧ ∀ v, v < W → ok v = true → pr (chF ok pr W) < pr v ∨ (pr (chF ok pr W) = pr v ∧ chF ok pr W ≤ v)) := by
  induction W with
  | zero => exact Or.inl ⟨rfl, fun v hv => by omega⟩
  | succ W ih =>
    have ih := ih (by omega)
    have e : chF ok pr (W + 1) = if ok W = true ∧ (chF ok pr W = 16 ∨ pr W < pr (chF ok pr W)) then W else chF ok pr W := rfl
    rw [e]
    by_cases c : ok W = true ∧ (chF ok pr W = 16 ∨ pr W < pr (chF ok pr W))
    · rw [if_pos c]
      right
      refine ⟨by omega, c.1, fun v hv ov => ?_⟩
      by_cases q : v = W
      · subst q; exact Or.inr ⟨rfl, Nat.le_refl _⟩
      · rcases ih with ⟨g1, g2⟩ | ⟨g1, g2, g3⟩
        · rw [g2 v (by omega)] at ov; cases ov
        · have := g3 v (by omega) ov
          rcases c.2 with c2 | c2
          · omega
          · omega
    · rw [if_neg c]
      rcases ih with ⟨g1, g2⟩ | ⟨g1, g2, g3⟩
      · left
        refine ⟨g1, fun v hv => ?_⟩
        by_cases q : v = W
        · subst q
          cases ho : ok v
          · rfl
          · exact absurd ⟨ho, Or.inl g1⟩ c
        · exact g2 v (by omega)
      · right
        refine ⟨by omega, g2, fun v hv ov => ?_⟩
        by_cases q : v = W
        · subst q
          have : ¬ pr v < pr (chF ok pr v) := fun w => c ⟨ov, Or.inr w⟩
          omega
        · exact g3 v (by omega) ov
theorem chF_uq {ok : Nat → Bool} {pr : Nat → Nat} {W c : Nat} (hW : W ≤ 16) (h1 : c < W) (h2 : ok c = true) (h3 : ∀ v, v < W → ok v = true → pr c < pr v ∨ (pr c = pr v ∧ c ≤ v)) : chF ok pr W = c := by
  rcases chF_ch (ok := ok) (pr := pr) hW with ⟨g1, g2⟩ | ⟨g1, g2, g3⟩
  · rw [g2 c h1] at h2; cases h2
  · have p1 := g3 c h1 h2
    have p2 := h3 _ g1 g2
    omega
theorem chF_no {ok : Nat → Bool} {pr : Nat → Nat} {W : Nat} (hW : W ≤ 16) (h : ∀ v, v < W → ok v = false) : chF ok pr W = 16 := by
  rcases chF_ch (ok := ok) (pr := pr) hW with ⟨g1, g2⟩ | ⟨g1, g2, g3⟩
  · exact g1
  · rw [h _ g1] at g2; cases g2
theorem chF_cg {ok ok' : Nat → Bool} {pr : Nat → Nat} {W : Nat} (h : ∀ v, v < W → ok v = ok' v) : chF ok pr W = chF ok' pr W := by
  induction W with
  | zero => rfl
  | succ W ih =>
    show (if ok W = true ∧ (chF ok pr W = 16 ∨ pr W < pr (chF ok pr W)) then W else chF ok pr W) = (if ok' W = true ∧ (chF ok' pr W = 16 ∨ pr W < pr (chF ok' pr W)) then W else chF ok' pr W)
    rw [ih (fun v hv => h v (by omega)), h W (by omega)]
noncomputable def okC (n d : Nat) (a : Ch) (g : Nat → Nat) (i v : Nat) : Bool := owB n d a i v && !(anyB (hiB a g i v) n)
noncomputable def chS (n d : Nat) (a : Ch) (g : Nat → Nat) (i : Nat) : Nat := chF (okC n d a g i) (prS a i) (waysS a i)
def tbW (r : Nat) : Nat := [0, 1, 2, 3, 4, 8, 5, 9, 6, 10, 7, 11, 12, 13, 14, 15].getD r 0
def tbR (v : Nat) : Nat := [0, 1, 2, 3, 4, 6, 8, 10, 5, 7, 9, 11, 12, 13, 14, 15].getD v 0
def wbS (a : Ch) (i r : Nat) : Nat := if a 1 i = 1 then tbW r else r
def rkS (a : Ch) (i v : Nat) : Nat := if a 1 i = 1 then tbR v else v
theorem tb_1 : ∀ r, r < 16 → stt 2 r = nI (tbW r) ∧ tbW r < 16 ∧ stt 3 r = nI (tbR r) ∧ tbR r < 16 ∧ tbW (tbR r) = r ∧ tbR (tbW r) = r := by decide +kernel
def trP (v : Nat) : Nat := if v < 8 then 5 * v else 5 * (v - 8) + 20
theorem tb_2 : ∀ q, q < 16 → ∀ r, r ≤ q → trP (tbW r) < trP (tbW q) ∨ (trP (tbW r) = trP (tbW q) ∧ tbW r ≤ tbW q) := by decide +kernel
theorem wb_lt {a : Ch} {i r : Nat} (h : r < waysS a i) : wbS a i r < waysS a i := by
  unfold wbS
  by_cases q : a 1 i = 1
  · rw [if_pos q]
    have : waysS a i = 16 := by unfold waysS; rw [if_neg (by omega)]
    rw [this] at h ⊢
    exact (tb_1 r h).2.1
  · rw [if_neg q]; exact h
theorem wb_rk {a : Ch} {i v : Nat} (h : v < waysS a i) : rkS a i v < waysS a i ∧ wbS a i (rkS a i v) = v := by
  unfold wbS rkS
  by_cases q : a 1 i = 1
  · rw [if_pos q, if_pos q]
    have : waysS a i = 16 := by unfold waysS; rw [if_neg (by omega)]
    rw [this] at h ⊢
    exact ⟨(tb_1 v h).2.2.2.1, (tb_1 v h).2.2.2.2.1⟩
  · rw [if_neg q, if_neg q]; exact ⟨h, rfl⟩
theorem wb_mo {a : Ch} {i r q : Nat} (h1 : r ≤ q) (h2 : q < waysS a i) : prS a i (wbS a i r) < prS a i (wbS a i q) ∨ (prS a i (wbS a i r) = prS a i (wbS a i q) ∧ wbS a i r ≤ wbS a i q) := by
  have w16 := waysS_le (a := a) (i := i)
  unfold wbS
  by_cases c : a 1 i = 1
  · rw [if_pos c, if_pos c]
    have e : ∀ v, prS a i v = trP v := fun v => by unfold prS trP; rw [if_pos c]
    rw [e, e]
    exact tb_2 q (by omega) r h1
  · rw [if_neg c, if_neg c]
    unfold prS
    rw [if_neg c]
    repeat' split
    all_goals omega
theorem wb_eq {m : Me} {n d : Nat} {a : Ch} {i r : Nat} (hV : VV n d a) (hC : CC m 10 n d a) (hi : i < n) (hr : r < 16) : f_Chart_wayByPrice (nI i) (nI r) m = some (nI (wbS a i r)) := by
  have h24 := hV.1
  have h3 := (hV.2.2.1 i hi).1.1
  unfold f_Chart_wayByPrice wbS
  rw [show ln 11 = 24 from rfl, rd_n (by omega) (by omega), (hC.nm hi).1]
  by_cases c : a 1 i = 1
  · rw [c, if_pos (show nI 1 = (1 : Int32) from rfl), if_pos rfl, show stl 2 = 16 from rfl, rd_n hr (by omega), (tb_1 r hr).1]
  · rw [if_neg c, if_neg (show ¬ nI (a 1 i) = (1 : Int32) from nI_ne (b := 1) (by omega) (by decide) c)]
theorem rk_eq {m : Me} {n d : Nat} {a : Ch} {i r : Nat} (hV : VV n d a) (hC : CC m 10 n d a) (hi : i < n) (hr : r < 16) : f_Chart_rankOf (nI i) (nI r) m = some (nI (rkS a i r)) := by
  have h24 := hV.1
  have h3 := (hV.2.2.1 i hi).1.1
  unfold f_Chart_rankOf rkS
  rw [show ln 11 = 24 from rfl, rd_n (by omega) (by omega), (hC.nm hi).1]
  by_cases c : a 1 i = 1
  · rw [c, if_pos (show nI 1 = (1 : Int32) from rfl), if_pos rfl, show stl 3 = 16 from rfl, rd_n hr (by omega), (tb_1 r hr).2.2.1]
  · rw [if_neg c, if_neg (show ¬ nI (a 1 i) = (1 : Int32) from nI_ne (b := 1) (by omega) (by decide) c)]
theorem cheap_eq {m : Me} {n d : Nat} {a : Ch} {g : Nat → Nat} {i o : Nat} (hV : VV n d a) (hC : CC m 10 n d a) (hL : LK m n d a) (ho : ln o = 24) (hG : GS n a g) (hg : ∀ k, k < n → m.1 o k = hI (g k)) (hi : i < n) :
    f_NC_cheapestWay (nI i) o m = some (hI (chS n d a g i)) := by
  have h24 := hV.1
  have w16 := waysS_le (a := a) (i := i)
  unfold f_NC_cheapestWay
  refine up aU (waysS a i) (fun r _ => ∀ q, q < r → okC n d a g i (wbS a i q) = false) (fun r => r = some (hI (chS n d a g i))) 0 () (by omega) (by unfold FU; omega) (fun q hq => by omega) ?_ ?_
  · intro f r _ hr hI' ih
    show lb_NC_cheapestWay_2 (nI i) o m f (nI r) = _
    unfold lb_NC_cheapestWay_2
    have wl := wb_lt hr
    rw [ways_eq hV hC hi]
    simp only [cP]
    rw [if_neg (nI_ge hr (by omega)), wb_eq hV hC hi (by omega)]
    simp only []
    rw [layOpen_eq hV hL hi (by omega)]
    simp only [bd, bI_z, nI_1]
    have nx : okC n d a g i (wbS a i r) = false → f (nI (r + 1)) = some (hI (chS n d a g i)) := by
      intro hf
      refine ih () (fun q hq => ?_)
      by_cases e : q = r
      · subst e; exact hf
      · exact hI' q (by omega)
    cases h1 : owB n d a i (wbS a i r) with
    | false =>
      rw [if_pos rfl]
      exact nx (by unfold okC; rw [h1]; rfl)
    | true =>
      rw [if_neg (by decide), firstHit_eq hV hC.1 hL ho hG hg hi wl]
      simp only [ls_any (show n < 2 ^ 31 by omega)]
      cases h2 : anyB (hiB a g i (wbS a i r)) n with
      | true =>
        rw [if_neg (by decide)]
        exact nx (by unfold okC; rw [h2]; simp)
      | false =>
        rw [if_pos rfl]
        have hok : okC n d a g i (wbS a i r) = true := by unfold okC; rw [h1, h2]; rfl
        have : chS n d a g i = wbS a i r := by
          refine chF_uq w16 wl hok (fun v hv ov => ?_)
          obtain ⟨k1, k2⟩ := wb_rk hv
          have : r ≤ rkS a i v := by
            rcases Nat.lt_or_ge (rkS a i v) r with q | q
            · have := hI' _ q; rw [k2, ov] at this; cases this
            · exact q
          have := wb_mo this k1
          rw [k2] at this
          exact this
        rw [this, hI_lt (by omega)]
  · intro f _ hI'
    show lb_NC_cheapestWay_2 (nI i) o m f (nI (waysS a i)) = _
    unfold lb_NC_cheapestWay_2
    rw [ways_eq hV hC hi]
    simp only [cP]
    rw [if_pos (nI_le (Nat.le_refl _) (by omega))]
    have : chS n d a g i = 16 := chF_no w16 (fun v hv => by
      obtain ⟨k1, k2⟩ := wb_rk hv
      have := hI' _ k1
      rw [k2] at this
      exact this)
    rw [this]; rfl
/-! slack -/
noncomputable def slB (n d : Nat) (a : Ch) (k : Nat) : Bool := decide (a 7 k ≠ 16) && (decide (chS n d a (a 7) k ≠ 16) && decide (prS a k (chS n d a (a 7) k) < prS a k (a 7 k)))
theorem chS_lt {n d : Nat} {a : Ch} {g : Nat → Nat} {i : Nat} : chS n d a g i = 16 ∨ chS n d a g i < waysS a i := by
  rcases chF_ch (ok := okC n d a g i) (pr := prS a i) (waysS_le (a := a) (i := i)) with ⟨g1, -⟩ | ⟨g1, -⟩
  · exact Or.inl g1
  · exact Or.inr g1
theorem slack_eq {m : Me} {n d : Nat} {a : Ch} (hV : VV n d a) (hC : CC m 10 n d a) (hL : LK m n d a) : (fx (lb_NC_slack_8 m) (fun _ _ => none) FU) 0 0 = some (nI (cnt (slB n d a) n), m) := by
  have h24 := hV.1
  refine up aV n (fun k s => s = nI (cnt (slB n d a) k)) (fun r => r = some (nI (cnt (slB n d a) n), m)) 0 0 (by omega) (by unfold FU; omega) rfl ?_ ?_
  · intro f k s hk hs ih
    have hs : s = nI (cnt (slB n d a) k) := hs
    subst hs
    show lb_NC_slack_8 m f (nI (cnt (slB n d a) k)) (nI k) = _
    unfold lb_NC_slack_8
    have w16 := waysS_le (a := a) (i := k)
    have es : cnt (slB n d a) (k + 1) = cnt (slB n d a) k + (if slB n d a k = true then 1 else 0) := rfl
    rw [hC.1, if_neg (nI_ge hk (by omega)), show ln 17 = 24 from rfl, rd_n (by omega) (by omega)]
    simp only [bd, nI_1, show m.1 17 k = hI (a 7 k) from hC.2.2.2.1 k hk]
    have nx : slB n d a k = false → f (nI (cnt (slB n d a) k)) (nI (k + 1)) = some (nI (cnt (slB n d a) n), m) := by
      intro hf
      rw [hf, if_neg (by decide)] at es
      exact ih _ (by rw [es]; rfl)
    by_cases c : a 7 k = 16
    · rw [c, if_pos (show hI 16 = (-1 : Int32) from rfl), if_pos trivial]
      exact nx (by unfold slB; simp [c])
    · have gk : a 7 k < waysS a k := (hV.gs k hk).resolve_left c
      rw [hI_lt (show a 7 k < 16 by omega), if_neg (nI_n1 (by omega)), cheap_eq hV hC hL rfl hV.gs (fun k hk => hC.2.2.2.1 k hk) hk]
      simp only [cP]
      by_cases c2 : chS n d a (a 7) k = 16
      · rw [c2, if_pos (show hI 16 = (-1 : Int32) from rfl)]
        exact nx (by unfold slB; simp [c2])
      · have cl : chS n d a (a 7) k < waysS a k := chS_lt.resolve_left c2
        have p1 := prS_le (a := a) (i := k) (show chS n d a (a 7) k < 16 by omega)
        have p2 := prS_le (a := a) (i := k) (show a 7 k < 16 by omega)
        rw [hI_lt (by omega), if_neg (nI_n1 (by omega)), price_eq hV hC hk (by omega)]
        simp only []
        rw [price_eq hV hC hk (by omega)]
        simp only []
        by_cases c3 : prS a k (chS n d a (a 7) k) < prS a k (a 7 k)
        · rw [if_neg (nI_ge c3 (by omega))]
          rw [show slB n d a k = true by unfold slB; simp [c, c2, c3], if_pos rfl] at es
          exact ih _ (by rw [es])
        · rw [if_pos (nI_le (by omega) (by omega))]
          exact nx (by unfold slB; simp [c3])
  · intro f s hs
    have hs : s = nI (cnt (slB n d a) n) := hs
    subst hs
    show lb_NC_slack_8 m f (nI (cnt (slB n d a) n)) (nI n) = _
    unfold lb_NC_slack_8
    rw [hC.1, if_pos (nI_le (Nat.le_refl _) (by omega))]
theorem mslack22 {m : Me} {n d : Nat} {a : Ch} {k : Nat} {K : Int32 → Me → Option (Int32 × Me)} {Q : Option (Int32 × Me) → Prop} (hV : VV n d a) (hM : MM m n d a) (hk : k < n)
    (hK : ∀ m', Fm SD m m' → Q (K (bI (slB n d a k)) m')) : Q ((fx (lb_Mo_slack_22 (nI k) K) (fun _ _ _ => none) FU) 0 0 m) := by
  have h24 := hV.1
  have w16 := waysS_le (a := a) (i := k)
  have gk := hV.gs k hk
  refine up aVM (waysS a k) (fun v s => s.1 = bI (decide (a 7 k ≠ 16) && anyB (fun u => decide (prS a k u < prS a k (a 7 k)) && okC n d a (a 7) k u) v) ∧ Fm SD m s.2) Q 0 (0, m) (by omega) (by unfold FU; omega) ⟨by unfold anyB; simp; rfl, Fm.rf⟩ ?_ ?_
  · rintro f v ⟨s, m1⟩ hv ⟨hs, f1⟩ ih
    have hs : s = bI (decide (a 7 k ≠ 16) && anyB (fun u => decide (prS a k u < prS a k (a 7 k)) && okC n d a (a 7) k u) v) := hs
    have f1 : Fm SD m m1 := f1
    show Q (lb_Mo_slack_22 (nI k) K f s (nI v) m1)
    unfold lb_Mo_slack_22
    have M1 := hM.fD f1
    rw [moWays_eq hV M1 hk]
    simp only [cP_s]
    rw [if_neg (nI_ge hv (by omega)), show ln 207 = 24 from rfl, rd_n (by omega) (by omega), show m1.1 207 k = nI (a 7 k) from M1.2.2.1 7 k (by omega) (by omega) hk]
    by_cases c : a 7 k = 16
    · rw [c, if_pos (show nI 16 = (16 : Int32) from rfl), hs]
      have := hK m1 f1
      rw [show slB n d a k = false by unfold slB; simp [c]] at this
      rw [show (decide (a 7 k ≠ 16) && anyB (fun u => decide (prS a k u < prS a k (a 7 k)) && okC n d a (a 7) k u) v) = false by simp [c]]
      exact this
    · rw [if_neg (show ¬ nI (a 7 k) = (16 : Int32) from nI_ne (b := 16) (by omega) (by decide) c)]
      have gk : a 7 k < waysS a k := gk.resolve_left c
      have p1 := prS_le (a := a) (i := k) (show v < 16 by omega)
      have p2 := prS_le (a := a) (i := k) (show a 7 k < 16 by omega)
      have e0 : (decide (a 7 k ≠ 16) && anyB (fun u => decide (prS a k u < prS a k (a 7 k)) && okC n d a (a 7) k u) v) = anyB (fun u => decide (prS a k u < prS a k (a 7 k)) && okC n d a (a 7) k u) v := by simp [c]
      have e1 : (decide (a 7 k ≠ 16) && anyB (fun u => decide (prS a k u < prS a k (a 7 k)) && okC n d a (a 7) k u) (v + 1)) = (anyB (fun u => decide (prS a k u < prS a k (a 7 k)) && okC n d a (a 7) k u) v || (decide (prS a k v < prS a k (a 7 k)) && okC n d a (a 7) k v)) := by
        rw [show anyB (fun u => decide (prS a k u < prS a k (a 7 k)) && okC n d a (a 7) k u) (v + 1) = (anyB (fun u => decide (prS a k u < prS a k (a 7 k)) && okC n d a (a 7) k u) v || (decide (prS a k v < prS a k (a 7 k)) && okC n d a (a 7) k v)) from rfl]
        simp [c]
      rw [hs, e0]
      have nx : ∀ b m2, Fm SD m m2 → b = (anyB (fun u => decide (prS a k u < prS a k (a 7 k)) && okC n d a (a 7) k u) v || (decide (prS a k v < prS a k (a 7 k)) && okC n d a (a 7) k v)) → Q (f (bI b) (nI (v + 1)) m2) := by
        intro b m2 f2 hb
        exact ih (bI b, m2) ⟨by rw [e1, ← hb], f2⟩
      simp only [bd, nI_1, bI_z]
      cases hA : anyB (fun u => decide (prS a k u < prS a k (a 7 k)) && okC n d a (a 7) k u) v with
      | true =>
        rw [if_neg (by decide)]
        exact nx true m1 f1 (by rw [hA]; rfl)
      | false =>
        rw [if_pos rfl, moPrice_eq hV M1 hk (by omega)]
        simp only [cP_s]
        rw [rd_n (by omega) (by omega), show m1.1 207 k = nI (a 7 k) from M1.2.2.1 7 k (by omega) (by omega) hk, moPrice_eq hV M1 hk (by omega)]
        simp only [cP_s]
        by_cases c2 : prS a k v < prS a k (a 7 k)
        · rw [if_neg (nI_ge c2 (by omega))]
          obtain ⟨m2, e2, f2⟩ := moOpen_eq (w := v) (z := 0) hV M1 hk (by omega) (by omega)
          rw [show f_Mo_isOpen (nI k) (nI v) 0 m1 = _ from e2]
          simp only [cI_s, bI_z]
          have eo : owB n d a k v = opB n d a k v 0 := by unfold owB; simp [hv]
          cases ho : opB n d a k v 0 with
          | false =>
            rw [if_pos rfl]
            exact nx false m2 (f1.tr f2) (by rw [hA]; unfold okC; rw [eo, ho]; simp)
          | true =>
            rw [if_neg (by decide)]
            obtain ⟨m3, e3, f3⟩ := clashIn_eq hV (M1.fD f2) hk hv
            rw [e3]
            simp only [cI_s, ls_any (show n < 2 ^ 31 by omega)]
            cases h2 : anyB (hiB a (a 7) k v) n with
            | true =>
              rw [if_neg (by decide)]
              exact nx false m3 ((f1.tr f2).tr f3) (by rw [hA]; unfold okC; rw [h2]; simp)
            | false =>
              rw [if_pos rfl]
              exact nx true m3 ((f1.tr f2).tr f3) (by rw [hA]; unfold okC; rw [h2, eo, ho]; simp [c2])
        · rw [if_pos (nI_le (by omega) (by omega))]
          exact nx false m1 f1 (by rw [hA]; simp [c2])
  · rintro f ⟨s, m1⟩ ⟨hs, f1⟩
    have hs : s = bI (decide (a 7 k ≠ 16) && anyB (fun u => decide (prS a k u < prS a k (a 7 k)) && okC n d a (a 7) k u) (waysS a k)) := hs
    have f1 : Fm SD m m1 := f1
    show Q (lb_Mo_slack_22 (nI k) K f s (nI (waysS a k)) m1)
    unfold lb_Mo_slack_22
    rw [moWays_eq hV (hM.fD f1) hk]
    simp only [cP_s]
    rw [if_pos (nI_le (Nat.le_refl _) (by omega)), hs]
    have e : (decide (a 7 k ≠ 16) && anyB (fun u => decide (prS a k u < prS a k (a 7 k)) && okC n d a (a 7) k u) (waysS a k)) = slB n d a k := by
      unfold slB
      congr 1
      have ch := chF_ch (ok := okC n d a (a 7) k) (pr := prS a k) w16
      rw [show chF (okC n d a (a 7) k) (prS a k) (waysS a k) = chS n d a (a 7) k from rfl] at ch
      rcases ch with ⟨g1, g2⟩ | ⟨g1, g2, g3⟩
      · rw [anyB_f.mpr (fun u hu => by rw [g2 u hu]; simp), g1]; rfl
      · cases hq : (decide (chS n d a (a 7) k ≠ 16) && decide (prS a k (chS n d a (a 7) k) < prS a k (a 7 k))) with
        | true =>
          rw [Bool.and_eq_true] at hq
          exact anyB_t.mpr ⟨_, g1, by rw [g2, hq.2]; rfl⟩
        | false =>
          refine anyB_f.mpr (fun u hu => ?_)
          cases ho : okC n d a (a 7) k u
          · simp
          · have := g3 u hu ho
            have hne : chS n d a (a 7) k ≠ 16 := by omega
            have : ¬ prS a k (chS n d a (a 7) k) < prS a k (a 7 k) := by
              intro w
              rw [decide_eq_true hne, decide_eq_true w] at hq
              cases hq
            simp
            omega
    rw [e]
    exact hK m1 f1
theorem c_slack {m : Me} (hI' : Inv m) : PairI (f_NC_slack m) f_Mo_slack := by
  obtain ⟨n, d, a, e, h, H, i⟩ := hI'
  obtain ⟨i1, i2, i3, i4, i5, i6, i7, i8, i9⟩ := id i
  have h24 := i1.1
  obtain ⟨m1, e1, j1, k1⟩ := layOut_q i
  have j := j1.m0
  have A : f_NC_slack m = some (nI (cnt (slB n d a) n), m1) := by
    unfold f_NC_slack
    rw [e1]
    simp only [cP_s]
    exact slack_eq i1 j1.2.1 k1
  have B : ∃ m2, f_Mo_slack m1 = some (nI (cnt (slB n d a) n), m2) ∧ Fm SD (si m1 200 0 0) m2 := by
    unfold f_Mo_slack
    rw [bdE]
    refine up aVM n (fun k s => s.1 = nI (cnt (slB n d a) k) ∧ Fm SD (si m1 200 0 0) s.2) (fun r => ∃ m2, r = some (nI (cnt (slB n d a) n), m2) ∧ Fm SD (si m1 200 0 0) m2) 0 (0, si m1 200 0 0) (by omega) (by unfold FU; omega) ⟨rfl, Fm.rf⟩ ?_ ?_
    · rintro f k ⟨s, m2⟩ hk ⟨hs, f2⟩ ih
      have hs : s = nI (cnt (slB n d a) k) := hs
      have f2 : Fm SD (si m1 200 0 0) m2 := f2
      subst hs
      show ∃ m3, lb_Mo_slack_9 f (nI (cnt (slB n d a) k)) (nI k) m2 = some (_, m3) ∧ _
      unfold lb_Mo_slack_9
      have M2 := j.2.2.1.fD f2
      have es : cnt (slB n d a) (k + 1) = cnt (slB n d a) k + (if slB n d a k = true then 1 else 0) := rfl
      rw [M2.1, if_neg (nI_ge hk (by omega)), bdE]
      refine mslack22 (Q := fun r => ∃ m2, r = some (nI (cnt (slB n d a) n), m2) ∧ Fm SD (si m1 200 0 0) m2) i1 M2 hk (fun m3 f3 => ?_)
      simp only [bd, nI_1, bI_z]
      cases hb : slB n d a k with
      | false =>
        rw [hb, if_neg (by decide)] at es
        rw [if_pos rfl]
        exact ih (_, m3) ⟨by rw [es]; exact nI_add _ 0, f2.tr f3⟩
      | true =>
        rw [hb, if_pos rfl] at es
        rw [if_neg (by decide)]
        exact ih (_, m3) ⟨by rw [es]; rfl, f2.tr f3⟩
    · rintro f ⟨s, m2⟩ ⟨hs, f2⟩
      have hs : s = nI (cnt (slB n d a) n) := hs
      have f2 : Fm SD (si m1 200 0 0) m2 := f2
      subst hs
      show ∃ m3, lb_Mo_slack_9 f (nI (cnt (slB n d a) n)) (nI n) m2 = some (_, m3) ∧ _
      unfold lb_Mo_slack_9
      rw [(j.2.2.1.fD f2).1, if_pos (nI_le (Nat.le_refl _) (by omega))]
      exact ⟨m2, rfl, f2⟩
  obtain ⟨m2, e2, f2⟩ := B
  exact ⟨_, m1, m2, A, e2, (j.fD f2).inv⟩
