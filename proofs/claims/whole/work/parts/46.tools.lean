/-! PURE PART: tools for loops, truth values, frames; the open ways on both sides -/
theorem fx_ix {κ : Type} {B : κ → κ} {z : κ} (P : Nat → κ → Prop) (h0 : P 0 z) (hs : ∀ k f, P k f → P (k + 1) (B f)) : ∀ n, P n (fx B z n) := by
  intro n
  induction n with
  | zero => exact h0
  | succ n ih => exact hs _ _ ih
abbrev aU {ρ : Type} (f : Int32 → Option ρ) (k : Nat) (_ : Unit) : Option ρ := f (nI k)
abbrev aM {ρ : Type} (f : Int32 → Me → Option ρ) (k : Nat) (s : Me) : Option ρ := f (nI k) s
abbrev aV {ρ : Type} (f : Int32 → Int32 → Option ρ) (k : Nat) (s : Int32) : Option ρ := f s (nI k)
abbrev aVM {ρ : Type} (f : Int32 → Int32 → Me → Option ρ) (k : Nat) (s : Int32 × Me) : Option ρ := f s.1 (nI k) s.2
theorem up {κ σ ρ : Type} {B : κ → κ} {z : κ} (ap : κ → Nat → σ → Option ρ) (N : Nat) (I : Nat → σ → Prop) (Q : Option ρ → Prop)
    (i0 : Nat) (s0 : σ) (hi : i0 ≤ N) (hN : N < FU) (h0 : I i0 s0)
    (hs : ∀ f i s, i < N → I i s → (∀ s', I (i + 1) s' → Q (ap f (i + 1) s')) → Q (ap (B f) i s))
    (he : ∀ f s, I N s → Q (ap (B f) N s)) : Q (ap (fx B z FU) i0 s0) := by
  have key : ∀ n, (fun (k : Nat) (f : κ) => ∀ i s, i ≤ N → N - i < k → I i s → Q (ap f i s)) n (fx B z n) := by
    refine fx_ix (fun (k : Nat) (f : κ) => ∀ i s, i ≤ N → N - i < k → I i s → Q (ap f i s)) ?_ ?_
    · intro i s _ h
      omega
    · intro k f ih i s hi hk hI
      by_cases hx : i = N
      · subst hx
        exact he f s hI
      · exact hs f i s (by omega) hI (fun s' h' => ih (i + 1) s' (by omega) (by omega) h')
  exact key FU i0 s0 hi (by omega) h0
theorem dn {κ σ ρ : Type} {B : κ → κ} {z : κ} (ap : κ → Nat → σ → Option ρ) (I : Nat → σ → Prop) (Q : Option ρ → Prop)
    (i0 : Nat) (s0 : σ) (hN : i0 < FU) (h0 : I i0 s0)
    (hs : ∀ f i s, I (i + 1) s → (∀ s', I i s' → Q (ap f i s')) → Q (ap (B f) (i + 1) s))
    (he : ∀ f s, I 0 s → Q (ap (B f) 0 s)) : Q (ap (fx B z FU) i0 s0) := by
  have key : ∀ n, (fun (k : Nat) (f : κ) => ∀ i s, i < k → I i s → Q (ap f i s)) n (fx B z n) := by
    refine fx_ix (fun (k : Nat) (f : κ) => ∀ i s, i < k → I i s → Q (ap f i s)) ?_ ?_
    · intro i s h
      omega
    · intro k f ih i s hk hI
      cases i with
      | zero => exact he f s hI
      | succ i => exact hs f i s hI (fun s' h' => ih i s' (by omega) h')
  exact key FU i0 s0 hN h0
def bI (b : Bool) : Int32 := if b = true then 1 else 0
theorem bI_z (b : Bool) : (bI b = 0) = (b = false) := by
  cases b
  · exact propext ⟨fun _ => rfl, fun _ => rfl⟩
  · exact propext ⟨fun h => absurd h (by decide), fun h => by cases h⟩
theorem bI_o (b : Bool) : (bI b = 1) = (b = true) := by
  cases b
  · exact propext ⟨fun h => absurd h (by decide), fun h => by cases h⟩
  · exact propext ⟨fun _ => rfl, fun _ => rfl⟩
theorem bI_01 (b : Bool) : bI b = 0 ∨ bI b = 1 := by
  cases b
  · exact Or.inl rfl
  · exact Or.inr rfl
noncomputable def pB (P : Prop) : Bool := @decide P (Classical.propDecidable P)
theorem pB_t {P : Prop} : pB P = true ↔ P := by unfold pB; exact @decide_eq_true_iff P (Classical.propDecidable P)
theorem pB_f {P : Prop} : pB P = false ↔ ¬ P := by unfold pB; exact @decide_eq_false_iff_not P (Classical.propDecidable P)
theorem IsB.eq {x : Option Int32} {P : Prop} (h : IsB x P) : x = some (bI (pB P)) := by
  rcases h with ⟨a, b⟩ | ⟨a, b⟩
  · rw [pB_t.mpr a]; exact b
  · rw [pB_f.mpr a]; exact b
def anyB (f : Nat → Bool) : Nat → Bool
  | 0 => false
  | n + 1 => anyB f n || f n
theorem anyB_t {f : Nat → Bool} {n : Nat} : anyB f n = true ↔ ∃ i, i < n ∧ f i = true := by
  induction n with
  | zero =>
    constructor
    · intro h
      cases h
    · rintro ⟨i, h, _⟩
      omega
  | succ n ih =>
    show (anyB f n || f n) = true ↔ _
    rw [Bool.or_eq_true, ih]
    constructor
    · rintro (⟨i, h, e⟩ | e)
      · exact ⟨i, by omega, e⟩
      · exact ⟨n, by omega, e⟩
    · rintro ⟨i, h, e⟩
      by_cases q : i = n
      · subst q; exact Or.inr e
      · exact Or.inl ⟨i, by omega, e⟩
theorem anyB_f {f : Nat → Bool} {n : Nat} : anyB f n = false ↔ ∀ i, i < n → f i = false := by
  rw [← Bool.not_eq_true, anyB_t]
  constructor
  · intro h i hi
    cases e : f i
    · rfl
    · exact absurd ⟨i, hi, e⟩ h
  · rintro h ⟨i, hi, e⟩
    rw [h i hi] at e
    cases e
theorem anyB_cg {f g : Nat → Bool} {n : Nat} (h : ∀ i, i < n → f i = g i) : anyB f n = anyB g n := by
  induction n with
  | zero => rfl
  | succ n ih =>
    show (anyB f n || f n) = (anyB g n || g n)
    rw [ih (fun i hi => h i (by omega)), h n (by omega)]
def cnt (f : Nat → Bool) : Nat → Nat
  | 0 => 0
  | n + 1 => cnt f n + (if f n = true then 1 else 0)
theorem cnt_le (f : Nat → Bool) (n : Nat) : cnt f n ≤ n := by
  induction n with
  | zero => exact Nat.le_refl _
  | succ n ih =>
    show cnt f n + _ ≤ _
    split <;> omega
theorem cnt_cg {f g : Nat → Bool} {n : Nat} (h : ∀ i, i < n → f i = g i) : cnt f n = cnt g n := by
  induction n with
  | zero => rfl
  | succ n ih =>
    show cnt f n + _ = cnt g n + _
    rw [ih (fun i hi => h i (by omega)), h n (by omega)]
def lsF (f : Nat → Bool) : Nat → Nat → Int32
  | 0, _ => -1
  | k + 1, i => if f i = true then nI i else lsF f k (i + 1)
def lsI (f : Nat → Bool) (n : Nat) : Int32 := lsF f n 0
theorem lsF_cg {f g : Nat → Bool} {k i : Nat} (h : ∀ j, j < i + k → f j = g j) : lsF f k i = lsF g k i := by
  induction k generalizing i with
  | zero => rfl
  | succ k ih =>
    show (if f i = true then nI i else lsF f k (i + 1)) = (if g i = true then nI i else lsF g k (i + 1))
    rw [h i (by omega), ih (fun j hj => h j (by omega))]
theorem lsI_cg {f g : Nat → Bool} {n : Nat} (h : ∀ j, j < n → f j = g j) : lsI f n = lsI g n := lsF_cg (fun j hj => h j (by omega))
theorem lsF_st {f : Nat → Bool} {N i : Nat} (h : i < N) : lsF f (N - i) i = if f i = true then nI i else lsF f (N - (i + 1)) (i + 1) := by
  rw [show N - i = (N - (i + 1)) + 1 by omega]
  rfl
theorem lsF_n1 {f : Nat → Bool} {k i : Nat} (h : i + k < 2 ^ 31) : lsF f k i = -1 ↔ ∀ j, i ≤ j → j < i + k → f j = false := by
  induction k generalizing i with
  | zero => exact ⟨fun _ j h1 h2 => by omega, fun _ => rfl⟩
  | succ k ih =>
    show (if f i = true then nI i else lsF f k (i + 1)) = -1 ↔ _
    cases e : f i with
    | true =>
      rw [if_pos rfl]
      constructor
      · intro q
        have h2 := nI_pos (n := i) (by omega)
        rw [q] at h2
        exact absurd (by decide) h2
      · intro q
        rw [q i (by omega) (by omega)] at e
        cases e
    | false =>
      rw [if_neg (by decide), ih (by omega)]
      constructor
      · intro q j h1 h2
        by_cases hj : j = i
        · subst hj; exact e
        · exact q j (by omega) (by omega)
      · exact fun q j h1 h2 => q j (by omega) (by omega)
theorem lsI_n1 {f : Nat → Bool} {n : Nat} (h : n < 2 ^ 31) : lsI f n = -1 ↔ ∀ j, j < n → f j = false := by
  unfold lsI
  rw [lsF_n1 (by omega)]
  exact ⟨fun q j hj => q j (by omega) (by omega), fun q j _ hj => q j (by omega)⟩
/-! frames: S names the cells that may change -/
def Fm (S : Nat → Nat → Prop) (m m' : Me) : Prop := ∀ o j, ¬ S o j → m'.1 o j = m.1 o j
theorem Fm.rf {S : Nat → Nat → Prop} {m : Me} : Fm S m m := fun _ _ _ => rfl
theorem Fm.tr {S : Nat → Nat → Prop} {m m' m'' : Me} (h : Fm S m m') (g : Fm S m' m'') : Fm S m m'' := fun o j q => (g o j q).trans (h o j q)
theorem Fm.mo {S T : Nat → Nat → Prop} {m m' : Me} (h : Fm S m m') (g : ∀ o j, S o j → T o j) : Fm T m m' := fun o j q => h o j (fun w => q (g o j w))
theorem Fm.wr {S : Nat → Nat → Prop} {m : Me} {o j : Nat} {v : Int32} (h : S o j) : Fm S m (si m o j v) := by
  intro a b q
  rw [si1, if_neg]
  rintro ⟨rfl, rfl⟩
  exact q h
theorem Fm.wl {S : Nat → Nat → Prop} {m : Me} {o j : Nat} {v : Int64} : Fm S m (sl m o j v) := fun _ _ _ => rfl
theorem Fm.wr' {S : Nat → Nat → Prop} {m0 m : Me} {o j : Nat} {v : Int32} (f : Fm S m0 m) (h : S o j) : Fm S m0 (si m o j v) := f.tr (Fm.wr h)
def SD (o j : Nat) : Prop := o = 200 ∧ 16 ≤ j ∧ j ≤ 19
/-! the two charts -/
def hI (h : Nat) : Int32 := if h = 16 then -1 else nI h
def CC (m : Me) (c n d : Nat) (a : Ch) : Prop := m.1 c 0 = nI n ∧ m.1 c 1 = nI d ∧ (∀ k i, 1 ≤ k → k ≤ 6 → i < n → m.1 (c + k) i = nI (a k i)) ∧ (∀ i, i < n → m.1 (c + 7) i = hI (a 7 i)) ∧ ∀ i, i < d → m.1 (c + 8) i = nI (a 8 i) ∧ m.1 (c + 9) i = nI (a 9 i)
def MM (m : Me) (n d : Nat) (a : Ch) : Prop := m.1 200 1 = nI n ∧ m.1 200 2 = nI d ∧ (∀ k i, 1 ≤ k → k ≤ 7 → i < n → m.1 (200 + k) i = nI (a k i)) ∧ ∀ i, i < d → m.1 208 i = nI (a 8 i) ∧ m.1 209 i = nI (a 9 i)
def VV (n d : Nat) (a : Ch) : Prop := n ≤ 24 ∧ d ≤ 20 ∧ (∀ i, i < n → NmS a i ∧ (a 7 i = 16 ∨ a 7 i < waysS a i)) ∧ ∀ i, i < d → a 8 i ≤ 1000 ∧ a 9 i ≤ 1000
theorem CC.nm {m : Me} {n d : Nat} {a : Ch} {i : Nat} (h : CC m 10 n d a) (hi : i < n) : NmC m a i :=
  ⟨h.2.2.1 1 i (by omega) (by omega) hi, h.2.2.1 2 i (by omega) (by omega) hi, h.2.2.1 3 i (by omega) (by omega) hi, h.2.2.1 4 i (by omega) (by omega) hi, h.2.2.1 5 i (by omega) (by omega) hi⟩
theorem MM.nm {m : Me} {n d : Nat} {a : Ch} {i : Nat} (h : MM m n d a) (hi : i < n) : NmM m a i :=
  ⟨h.2.2.1 1 i (by omega) (by omega) hi, h.2.2.1 2 i (by omega) (by omega) hi, h.2.2.1 3 i (by omega) (by omega) hi, h.2.2.1 4 i (by omega) (by omega) hi, h.2.2.1 5 i (by omega) (by omega) hi⟩
theorem CC.fr {S : Nat → Nat → Prop} {m m' : Me} {c n d : Nat} {a : Ch} (h : CC m c n d a) (f : Fm S m m') (g : ∀ o j, c ≤ o → o ≤ c + 9 → ¬ S o j) : CC m' c n d a := by
  obtain ⟨h1, h2, h3, h4, h5⟩ := h
  refine ⟨?_, ?_, ?_, ?_, ?_⟩
  · rw [f _ _ (g _ _ (by omega) (by omega))]; exact h1
  · rw [f _ _ (g _ _ (by omega) (by omega))]; exact h2
  · intro k i q1 q2 q3
    rw [f _ _ (g _ _ (by omega) (by omega))]; exact h3 k i q1 q2 q3
  · intro i q
    rw [f _ _ (g _ _ (by omega) (by omega))]; exact h4 i q
  · intro i q
    rw [f _ _ (g _ _ (by omega) (by omega)), f _ _ (g _ _ (by omega) (by omega))]; exact h5 i q
theorem MM.fr {S : Nat → Nat → Prop} {m m' : Me} {n d : Nat} {a : Ch} (h : MM m n d a) (f : Fm S m m') (g0 : ¬ S 200 1) (g1 : ¬ S 200 2) (g : ∀ o j, 201 ≤ o → o ≤ 209 → ¬ S o j) : MM m' n d a := by
  obtain ⟨h1, h2, h3, h5⟩ := h
  refine ⟨?_, ?_, ?_, ?_⟩
  · rw [f _ _ g0]; exact h1
  · rw [f _ _ g1]; exact h2
  · intro k i q1 q2 q3
    rw [f _ _ (g _ _ (by omega) (by omega))]; exact h3 k i q1 q2 q3
  · intro i q
    rw [f _ _ (g _ _ (by omega) (by omega)), f _ _ (g _ _ (by omega) (by omega))]; exact h5 i q
theorem MM.fD {m m' : Me} {n d : Nat} {a : Ch} (h : MM m n d a) (f : Fm SD m m') : MM m' n d a :=
  h.fr f (by unfold SD; omega) (by unfold SD; omega) (fun o j _ _ => by unfold SD; omega)
/-! clash -/
noncomputable def clB (a : Ch) (i w j v z : Nat) : Bool := pB (clS a i w j v z)
theorem hits_eq {m : Me} {o o2 : Nat} {a : Ch} {i w j v z : Nat} (hz : z < 7) (hN1 : NmS a i) (hN2 : NmS a j) (h : BoxAt m o a i w z) (g : BoxAt m o2 a j v z) : f_Box_hits o o2 m = some (bI (clB a i w j v z)) := (boxAt_hits hz hN1 hN2 h g).eq
theorem doClash_eq {m : Me} {n d : Nat} {a : Ch} {i w j v z : Nat} (hV : VV n d a) (hM : MM m n d a) (hi : i < n) (hj : j < n) (hw : w < 16) (hv : v < 16) (hz : z < 7) :
    ∃ m', f_Mo_doClash (nI i) (nI w) (nI j) (nI v) (nI z) m = some (bI (clB a i w j v z), m') ∧ Fm SD m m' := by
  have h24 := hV.1
  obtain ⟨x, m', e, y, f1, f2⟩ := doClash_ok (m := m) (a := a) (i := i) (w := w) (j := j) (v := v) (z := z) (by omega) (by omega) hw hv hz (hV.2.2.1 i hi).1 (hV.2.2.1 j hj).1 (hM.nm hi) (hM.nm hj)
  refine ⟨m', ?_, ?_⟩
  · rw [e]
    unfold clB
    rcases y with ⟨rfl, h⟩ | ⟨rfl, h⟩
    · rw [pB_t.mpr h]; rfl
    · rw [pB_f.mpr h]; rfl
  · intro o j hS
    by_cases ho : o = 200
    · subst ho
      exact f2 j (by unfold SD at hS; omega)
    · rw [f1 o ho]
/-! open -/
noncomputable def cvB (a : Ch) (i w z X Y : Nat) : Bool := pB (cvS (lS a i w z) (tS a i w z) (lS a i w z + bwS a i w) (tS a i w z + bhS a i w) (X : Int) (Y : Int))
noncomputable def inB (a : Ch) (i w z : Nat) : Bool := pB (0 ≤ lS a i w z ∧ 0 ≤ tS a i w z ∧ lS a i w z + bwS a i w ≤ ((1000 * 2 ^ z : Nat) : Int) ∧ tS a i w z + bhS a i w ≤ ((1000 * 2 ^ z : Nat) : Int))
noncomputable def opB (n d : Nat) (a : Ch) (i w z : Nat) : Bool := inB a i w z && (!(anyB (fun k => cvB a i w z (a 2 k * 2 ^ z) (a 3 k * 2 ^ z)) n) && !(anyB (fun k => cvB a i w z (a 8 k * 2 ^ z) (a 9 k * 2 ^ z)) d))
theorem pw {X z : Nat} (h : X ≤ 1000) (hz : z < 7) : X * 2 ^ z ≤ 64000 := by
  have : 2 ^ z ≤ 2 ^ 6 := Nat.pow_le_pow_right (by decide) (by omega)
  calc X * 2 ^ z ≤ 1000 * 2 ^ 6 := Nat.mul_le_mul h this
    _ = 64000 := by decide
theorem covers_eq {m : Me} {o : Nat} {a : Ch} {i w z X Y : Nat} (hz : z < 7) (hN : NmS a i) (hB : BoxAt m o a i w z) (hX : X ≤ 64000) (hY : Y ≤ 64000) : f_Box_covers o (nI X) (nI Y) m = some (bI (cvB a i w z X Y)) := by
  obtain ⟨h0, h1, h2, h3, -⟩ := hB
  obtain ⟨r1, r2, r3, r4, -⟩ := box_rg (w := w) hz hN
  rw [nI_i, nI_i]
  exact (covers_ok h0 h1 h2 h3 r1 r2 r3 r4 (by omega) (by omega)).eq
theorem coversAny_eq {m : Me} {o x y L many z : Nat} {a : Ch} {i w : Nat} {X Y : Nat → Nat} (hx : ln x = L) (hy : ln y = L) (hm : many ≤ L) (hL : L ≤ 24) (hz : z < 7) (hN : NmS a i) (hB : BoxAt m o a i w z) (h : ∀ k, k < many → m.1 x k = nI (X k) ∧ m.1 y k = nI (Y k) ∧ X k ≤ 1000 ∧ Y k ≤ 1000) :
    f_Box_coversAny o x y (nI many) (nI z) m = some (bI (anyB (fun k => cvB a i w z (X k * 2 ^ z) (Y k * 2 ^ z)) many)) := by
  unfold f_Box_coversAny
  refine up aU many (fun k _ => ∀ j, j < k → cvB a i w z (X j * 2 ^ z) (Y j * 2 ^ z) = false) (fun r => r = some (bI (anyB (fun k => cvB a i w z (X k * 2 ^ z) (Y k * 2 ^ z)) many))) 0 () (by omega) (by unfold FU; omega) (fun j hj => by omega) ?_ ?_
  · intro f k _ hk hI ih
    obtain ⟨e1, e2, e3, e4⟩ := h k hk
    show lb_Box_coversAny_3 o x y (nI many) (nI z) m f (nI k) = _
    unfold lb_Box_coversAny_3
    rw [if_neg (nI_ge hk (by omega)), hx, hy, rd_n (by omega) (by omega), rd_n (by omega) (by omega), e1, e2, nI_shl hz (by omega), nI_shl hz (by omega), covers_eq hz hN hB (pw e3 hz) (pw e4 hz)]
    simp only [cP, bd, bI_z, nI_1]
    cases hc : cvB a i w z (X k * 2 ^ z) (Y k * 2 ^ z) with
    | true =>
      rw [if_neg (by decide), anyB_t.mpr ⟨k, hk, hc⟩]
      rfl
    | false =>
      rw [if_pos rfl]
      refine ih () (fun j hj => ?_)
      by_cases q : j = k
      · subst q; exact hc
      · exact hI j (by omega)
  · intro f _ hI
    show lb_Box_coversAny_3 o x y (nI many) (nI z) m f (nI many) = _
    unfold lb_Box_coversAny_3
    rw [if_pos (nI_le (Nat.le_refl _) (by omega)), anyB_f.mpr hI]
    rfl
theorem shl1000 {z : Nat} (hz : z < 7) : (1000 : Int32) <<< (nI z &&& 31) = iI ((1000 * 2 ^ z : Nat) : Int) := by
  rw [show (1000 : Int32) = nI 1000 from rfl, nI_shl hz (by omega), nI_i]
theorem isOpen_eq {m : Me} {o n d : Nat} {a : Ch} {i w z : Nat} (hV : VV n d a) (hC : CC m 10 n d a) (hi : i < n) (hz : z < 7) (hB : BoxAt m o a i w z) : f_Box_isOpen o (nI z) m = some (bI (opB n d a i w z)) := by
  obtain ⟨v1, v2, v3, v4⟩ := hV
  have hN := (v3 i hi).1
  have k1 := coversAny_eq (x := 18) (y := 19) (L := 20) (many := d) (X := a 8) (Y := a 9) rfl rfl v2 (by omega) hz hN hB (fun k hk => ⟨(hC.2.2.2.2 k hk).1, (hC.2.2.2.2 k hk).2, (v4 k hk).1, (v4 k hk).2⟩)
  have k2 := coversAny_eq (x := 12) (y := 13) (L := 24) (many := n) (X := a 2) (Y := a 3) rfl rfl v1 (by omega) hz hN hB (fun k hk => ⟨(hC.nm hk).2.1, (hC.nm hk).2.2.1, (v3 k hk).1.2.1, (v3 k hk).1.2.2.1⟩)
  obtain ⟨h0, h1, h2, h3, -⟩ := hB
  obtain ⟨r1, r2, r3, r4, -⟩ := box_rg (w := w) hz hN
  have p := pw (X := 1000) (by omega) hz
  unfold f_Box_isOpen opB
  rw [shl1000 hz, h0, h1, h2, h3, hC.1, hC.2.1, k1, k2]
  simp only [bd, cP, bI_z]
  simp only [(b_lt0 (x := lS a i w z) (by omega) (by omega)).1, (b_lt0 (x := tS a i w z) (by omega) (by omega)).1, b_lt (x := ((1000 * 2 ^ z : Nat) : Int)) (y := lS a i w z + bwS a i w) (by omega) (by omega) (by omega) (by omega), b_le (x := tS a i w z + bhS a i w) (y := ((1000 * 2 ^ z : Nat) : Int)) (by omega) (by omega) (by omega) (by omega)]
  by_cases c : 0 ≤ lS a i w z ∧ 0 ≤ tS a i w z ∧ lS a i w z + bwS a i w ≤ ((1000 * 2 ^ z : Nat) : Int) ∧ tS a i w z + bhS a i w ≤ ((1000 * 2 ^ z : Nat) : Int)
  · rw [if_neg (by omega), if_neg (by omega), if_neg (by omega), if_pos (by omega), show inB a i w z = true from pB_t.mpr c]
    generalize anyB (fun k => cvB a i w z (a 8 k * 2 ^ z) (a 9 k * 2 ^ z)) d = b1
    generalize anyB (fun k => cvB a i w z (a 2 k * 2 ^ z) (a 3 k * 2 ^ z)) n = b2
    cases b1 <;> cases b2 <;> rfl
  · rw [show inB a i w z = false from pB_f.mpr c]
    split
    · rfl
    · split
      · rfl
      · split
        · rfl
        · rw [if_neg (by omega)]
          rfl
theorem mocovers_eq {m : Me} {a : Ch} {i w z X Y : Nat} (hz : z < 7) (hN : NmS a i) (h0 : m.1 200 16 = iI (lS a i w z)) (h1 : m.1 200 17 = iI (tS a i w z)) (h2 : m.1 200 18 = nI (bwS a i w)) (h3 : m.1 200 19 = nI (bhS a i w)) (hX : X ≤ 64000) (hY : Y ≤ 64000) : f_Mo_covers (nI X) (nI Y) m = some (bI (cvB a i w z X Y)) := by
  obtain ⟨r1, r2, r3, r4, -⟩ := box_rg (w := w) hz hN
  unfold f_Mo_covers cvB cvS
  rw [h0, h1, h2, h3, nI_i, nI_i, nI_i, nI_i, iI_add, iI_add]
  refine IsB.eq ?_
  unfold IsB
  simp only [b_le (x := (X : Int)) (y := lS a i w z) (by omega) (by omega) (by omega) (by omega), b_le (x := lS a i w z + bwS a i w) (y := (X : Int)) (by omega) (by omega) (by omega) (by omega), b_le (x := (Y : Int)) (y := tS a i w z) (by omega) (by omega) (by omega) (by omega), b_le (x := tS a i w z + bhS a i w) (y := (Y : Int)) (by omega) (by omega) (by omega) (by omega)]
  by_cases p : lS a i w z < (X : Int) ∧ (X : Int) < lS a i w z + bwS a i w ∧ tS a i w z < (Y : Int) ∧ (Y : Int) < tS a i w z + bhS a i w
  · left
    refine ⟨p, ?_⟩
    rw [if_neg (by omega), if_neg (by omega), if_neg (by omega), if_neg (by omega)]
  · right
    refine ⟨p, ?_⟩
    repeat' split
    all_goals first | rfl | (exfalso; omega)
theorem mbox_fr {m : Me} {l t : Int} {w h : Nat} : Fm SD m (mbox m l t w h) := by
  unfold mbox
  exact (((Fm.wr (by unfold SD; omega)).wr' (by unfold SD; omega)).wr' (by unfold SD; omega)).wr' (by unfold SD; omega)
theorem mbox_c {m : Me} {l t : Int} {w h : Nat} : (mbox m l t w h).1 200 16 = iI l ∧ (mbox m l t w h).1 200 17 = iI t ∧ (mbox m l t w h).1 200 18 = nI w ∧ (mbox m l t w h).1 200 19 = nI h := by
  unfold mbox
  refine ⟨?_, ?_, ?_, ?_⟩ <;> simp [si1]
theorem moBox_eq {m : Me} {n d : Nat} {a : Ch} {i w z : Nat} (hV : VV n d a) (hM : MM m n d a) (hi : i < n) (hw : w < 16) (hz : z < 7) :
    ∃ m', f_Mo_box (nI i) (nI w) (nI z) m = some m' ∧ Fm SD m m' ∧ m'.1 200 16 = iI (lS a i w z) ∧ m'.1 200 17 = iI (tS a i w z) ∧ m'.1 200 18 = nI (bwS a i w) ∧ m'.1 200 19 = nI (bhS a i w) := by
  have h24 := hV.1
  exact ⟨_, mobox_ok (by omega) hw hz (hV.2.2.1 i hi).1 (hM.nm hi), mbox_fr, mbox_c⟩
theorem moOpen_eq {m : Me} {n d : Nat} {a : Ch} {i w z : Nat} (hV : VV n d a) (hM : MM m n d a) (hi : i < n) (hw : w < 16) (hz : z < 7) :
    ∃ m', f_Mo_isOpen (nI i) (nI w) (nI z) m = some (bI (opB n d a i w z), m') ∧ Fm SD m m' := by
  obtain ⟨m1, e1, f1, b0, b1, b2, b3⟩ := moBox_eq hV hM hi hw hz
  refine ⟨m1, ?_, f1⟩
  have hM1 := hM.fD f1
  obtain ⟨v1, v2, v3, v4⟩ := hV
  have hN := (v3 i hi).1
  obtain ⟨r1, r2, r3, r4, -⟩ := box_rg (w := w) hz hN
  have p := pw (X := 1000) (by omega) hz
  unfold f_Mo_isOpen opB
  rw [e1]
  simp only [cP, bd]
  rw [shl1000 hz, b0, b1, b2, b3, nI_i, nI_i, iI_add, iI_add]
  simp only [(b_lt0 (x := lS a i w z) (by omega) (by omega)).1, (b_lt0 (x := tS a i w z) (by omega) (by omega)).1, b_lt (x := ((1000 * 2 ^ z : Nat) : Int)) (y := lS a i w z + bwS a i w) (by omega) (by omega) (by omega) (by omega), b_le (x := tS a i w z + bhS a i w) (y := ((1000 * 2 ^ z : Nat) : Int)) (by omega) (by omega) (by omega) (by omega)]
  by_cases c : 0 ≤ lS a i w z ∧ 0 ≤ tS a i w z ∧ lS a i w z + bwS a i w ≤ ((1000 * 2 ^ z : Nat) : Int) ∧ tS a i w z + bhS a i w ≤ ((1000 * 2 ^ z : Nat) : Int)
  · rw [if_neg (by omega), if_neg (by omega), if_neg (by omega), if_pos (by omega), show inB a i w z = true from pB_t.mpr c]
    have L2 : (fx (lb_Mo_isOpen_106 (nI z) m1) (fun _ => none) FU) 0 = some (bI (!(anyB (fun k => cvB a i w z (a 8 k * 2 ^ z) (a 9 k * 2 ^ z)) d)), m1) := by
      refine up aU d (fun k _ => ∀ j, j < k → cvB a i w z (a 8 j * 2 ^ z) (a 9 j * 2 ^ z) = false) (fun r => r = some (bI (!(anyB (fun k => cvB a i w z (a 8 k * 2 ^ z) (a 9 k * 2 ^ z)) d)), m1)) 0 () (by omega) (by unfold FU; omega) (fun j hj => by omega) ?_ ?_
      · intro f k _ hk hI ih
        obtain ⟨e1, e2⟩ := hM1.2.2.2 k hk
        obtain ⟨e3, e4⟩ := v4 k hk
        show lb_Mo_isOpen_106 (nI z) m1 f (nI k) = _
        unfold lb_Mo_isOpen_106
        rw [hM1.2.1, if_neg (nI_ge hk (by omega)), show ln 208 = 20 from rfl, show ln 209 = 20 from rfl, rd_n (by omega) (by omega), rd_n (by omega) (by omega), e1, e2, nI_shl hz (by omega), nI_shl hz (by omega), mocovers_eq hz hN b0 b1 b2 b3 (pw e3 hz) (pw e4 hz)]
        simp only [cP, bd, bI_z, nI_1]
        cases hc : cvB a i w z (a 8 k * 2 ^ z) (a 9 k * 2 ^ z) with
        | true =>
          rw [if_neg (by decide), anyB_t.mpr ⟨k, hk, hc⟩]
          rfl
        | false =>
          rw [if_pos rfl]
          refine ih () (fun j hj => ?_)
          by_cases q : j = k
          · subst q; exact hc
          · exact hI j (by omega)
      · intro f _ hI
        show lb_Mo_isOpen_106 (nI z) m1 f (nI d) = _
        unfold lb_Mo_isOpen_106
        rw [hM1.2.1, if_pos (nI_le (Nat.le_refl _) (by omega)), anyB_f.mpr hI]
        rfl
    rw [L2]
    refine up aU n (fun k _ => ∀ j, j < k → cvB a i w z (a 2 j * 2 ^ z) (a 3 j * 2 ^ z) = false) (fun r => r = some (bI (true && (!(anyB (fun k => cvB a i w z (a 2 k * 2 ^ z) (a 3 k * 2 ^ z)) n) && !(anyB (fun k => cvB a i w z (a 8 k * 2 ^ z) (a 9 k * 2 ^ z)) d))), m1)) 0 () (by omega) (by unfold FU; omega) (fun j hj => by omega) ?_ ?_
    · intro f k _ hk hI ih
      obtain ⟨-, e1, e2, -⟩ := hM1.nm hk
      obtain ⟨-, e3, e4, -⟩ := (v3 k hk).1
      show lb_Mo_isOpen_61 (nI z) m1 _ f (nI k) = _
      unfold lb_Mo_isOpen_61
      rw [hM1.1, if_neg (nI_ge hk (by omega)), show ln 202 = 24 from rfl, show ln 203 = 24 from rfl, rd_n (by omega) (by omega), rd_n (by omega) (by omega), e1, e2, nI_shl hz (by omega), nI_shl hz (by omega), mocovers_eq hz hN b0 b1 b2 b3 (pw e3 hz) (pw e4 hz)]
      simp only [cP, bd, bI_z, nI_1]
      cases hc : cvB a i w z (a 2 k * 2 ^ z) (a 3 k * 2 ^ z) with
      | true =>
        rw [if_neg (by decide), anyB_t.mpr ⟨k, hk, hc⟩]
        rfl
      | false =>
        rw [if_pos rfl]
        refine ih () (fun j hj => ?_)
        by_cases q : j = k
        · subst q; exact hc
        · exact hI j (by omega)
    · intro f _ hI
      show lb_Mo_isOpen_61 (nI z) m1 _ f (nI n) = _
      unfold lb_Mo_isOpen_61
      rw [hM1.1, if_pos (nI_le (Nat.le_refl _) (by omega)), anyB_f.mpr hI]
      rfl
  · rw [show inB a i w z = false from pB_f.mpr c]
    split
    · rfl
    · split
      · rfl
      · split
        · rfl
        · rw [if_neg (by omega)]
          rfl
