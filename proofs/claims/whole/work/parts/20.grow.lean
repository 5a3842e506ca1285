/-! THE CONSTRUCTORS: the world grows; all ints and longs are 0; Ls the numbers that live, r where the references go so far. The addresses (ad) are the machine's: a walk holds for all of them that agree with the first on what lived at the start. -/
def sv2 (ad : Nat → Nat) (r : Nat → Nat → Option Nat) (o j t : Nat) : Value := if t < 2 then .int 0 else if t = 2 then .long 0 else va_rf ((r o j).map ad)
def fs2 (ad : Nat → Nat) (r : Nat → Nat → Option Nat) (o : Nat) : List Value := (List.range (nf (kd o))).map (fun j => sv2 ad r o j (ft (kd o) j))
def ce2 (cy : Nat → ClassId) (ad : Nat → Nat) (r : Nat → Nat → Option Nat) (o : Nat) : va_E :=
  if kd o < 9 then .inr (kd o, fs2 ad r o)
  else if kd o = 20 then .inl (cy 0, ln o, .inl (fun _ => 0))
  else if kd o = 21 then .inl (cy 1, ln o, .inr (.inl (fun _ => 0)))
  else if kd o = 22 then .inl (cy 2, ln o, .inl (fun _ => 0))
  else if kd o = 23 then .inl (cy 3, ln o, .inr (.inr (.inr (.inr (fun i => (r o i).map ad)))))
  else .inl (cy 4, ln o, .inr (.inr (.inr (.inr (fun i => (r o i).map ad)))))
def ws2 (cy : Nat → ClassId) (ad : Nat → Nat) (r : Nat → Nat → Option Nat) (Ls : List Nat) : va_W := Ls.map (fun o => (ad o, ce2 cy ad r o))
def mZ : Me := (fun _ _ => 0, fun _ _ => 0)
theorem ce2_rf {cy : Nat → ClassId} {ad : Nat → Nat} {o : Nat} : ce2 cy ad rf o = cel cy ad mZ o := rfl
/-- the references of what lives go to what lives -/
def Cl (r : Nat → Nat → Option Nat) (Ls : List Nat) : Prop := ∀ o ∈ Ls, ∀ j o', r o j = some o' → o' ∈ Ls
def Ap2 (A : Nat → Prop) (ad : Nat → Nat) (Ls : List Nat) : Prop := Ls.Nodup ∧ (∀ o ∈ Ls, ∀ o' ∈ Ls, ad o = ad o' → o = o') ∧ ∀ o ∈ Ls, A (ad o)
theorem ws2_get {cy : Nat → ClassId} {ad : Nat → Nat} {r : Nat → Nat → Option Nat} {Ls : List Nat} {o : Nat} (h : o ∈ Ls) : ∃ k : Nat, Ls[k]? = some o ∧ (ws2 cy ad r Ls)[k]? = some (ad o, ce2 cy ad r o) := by
  obtain ⟨k, hk⟩ := List.getElem?_of_mem h
  exact ⟨k, hk, by unfold ws2; rw [List.getElem?_map, hk]; rfl⟩
theorem ce2_congr {cy : Nat → ClassId} {ad ad' : Nat → Nat} {r r' : Nat → Nat → Option Nat} {o : Nat} (h : ∀ j, (r' o j).map ad' = (r o j).map ad) : ce2 cy ad' r' o = ce2 cy ad r o := by
  unfold ce2 fs2 sv2
  simp only [h]
theorem ws2_set {cy : Nat → ClassId} {ad : Nat → Nat} {r r' : Nat → Nat → Option Nat} {Ls : List Nat} {o k : Nat} {e : va_E} (hn : Ls.Nodup) (hk : Ls[k]? = some o) (h1 : ce2 cy ad r' o = e) (h2 : ∀ o', o' ≠ o → ce2 cy ad r' o' = ce2 cy ad r o') : (ws2 cy ad r Ls).set k (ad o, e) = ws2 cy ad r' Ls := by
  apply List.ext_getElem?
  intro i
  unfold ws2
  rw [List.getElem?_set, List.getElem?_map, List.length_map]
  by_cases hi : k = i
  · subst hi
    have hl := (List.getElem?_eq_some_iff.mp hk).1
    rw [if_pos rfl, if_pos hl, List.getElem?_map, hk, ← h1]
    rfl
  · rw [if_neg hi, List.getElem?_map]
    cases hx : Ls[i]? with
    | none => rfl
    | some o' =>
      have hne : o' ≠ o := by
        intro q
        subst q
        have e1 := (List.getElem?_eq_some_iff.mp hk).2
        have e2 := (List.getElem?_eq_some_iff.mp hx).2
        exact hi ((List.getElem_inj hn).mp (e1.trans e2.symm))
      show some (ad o', ce2 cy ad r o') = some (ad o', ce2 cy ad r' o')
      rw [h2 o' hne]
theorem Ap2.D {A : Nat → Prop} {ad : Nat → Nat} {Ls : List Nat} (h : Ap2 A ad Ls) (cy : Nat → ClassId) (r : Nat → Nat → Option Nat) : va_D A (ws2 cy ad r Ls) := by
  have at' : ∀ (i : Nat) (p : Nat × va_E), (ws2 cy ad r Ls)[i]? = some p → ∃ o, Ls[i]? = some o ∧ p.1 = ad o := by
    intro i p hp
    unfold ws2 at hp
    rw [List.getElem?_map] at hp
    cases hx : Ls[i]? with
    | none => rw [hx] at hp; cases hp
    | some o => rw [hx] at hp; cases hp; exact ⟨o, rfl, rfl⟩
  refine ⟨fun i j p q hp hq hpq => ?_, fun k q hq => ?_⟩
  · obtain ⟨o, h1, h2⟩ := at' i p hp
    obtain ⟨o', h3, h4⟩ := at' j q hq
    have ho := h.2.1 o (List.mem_of_getElem? h1) o' (List.mem_of_getElem? h3) (by rw [← h2, ← h4, hpq])
    subst ho
    have e1 := (List.getElem?_eq_some_iff.mp h1).2
    have e2 := (List.getElem?_eq_some_iff.mp h3).2
    exact (List.getElem_inj h.1).mp (e1.trans e2.symm)
  · obtain ⟨o, h1, h2⟩ := at' k q hq
    rw [h2]
    exact h.2.2 o (List.mem_of_getElem? h1)
/-- the world with one number more, at a fresh address -/
theorem ws2_push {cy : Nat → ClassId} {ad : Nat → Nat} {r : Nat → Nat → Option Nat} {Ls : List Nat} {n q : Nat} {e : va_E} {A : Nat → Prop} (hc : Cl r Ls) (hA : Ap2 A ad Ls) (hn : n ∉ Ls) (hr : ∀ j, r n j = none) (he : ∀ ad', ce2 cy ad' r n = e) (hD : va_D A (ws2 cy ad r Ls ++ [(q, e)])) :
    ws2 cy ad r Ls ++ [(q, e)] = ws2 cy (va_up ad n q) r (Ls ++ [n]) ∧ Ap2 A (va_up ad n q) (Ls ++ [n]) ∧ (∀ o ∈ Ls, va_up ad n q o = ad o) ∧ Cl r (Ls ++ [n]) := by
  have ag : ∀ o ∈ Ls, va_up ad n q o = ad o := fun o ho => by
    unfold va_up
    have hne : ¬ o = n := fun h => hn (by rw [← h]; exact ho)
    rw [if_neg hne]
  have self : va_up ad n q n = q := by unfold va_up; rw [if_pos rfl]
  have hq : ∀ o ∈ Ls, ad o ≠ q := by
    intro o ho h
    obtain ⟨k, h1, h2⟩ := ws2_get (cy := cy) (ad := ad) (r := r) ho
    have hl : k < (ws2 cy ad r Ls).length := (List.getElem?_eq_some_iff.mp h2).1
    have e1 : (ws2 cy ad r Ls ++ [(q, e)])[k]? = some (ad o, ce2 cy ad r o) := by rw [List.getElem?_append_left hl]; exact h2
    have e2 : (ws2 cy ad r Ls ++ [(q, e)])[(ws2 cy ad r Ls).length]? = some (q, e) := by rw [List.getElem?_append_right (Nat.le_refl _)]; simp
    have := hD.1 _ _ _ _ e1 e2 h
    omega
  refine ⟨?_, ⟨?_, ?_, ?_⟩, ag, ?_⟩
  · unfold ws2
    rw [List.map_append, List.map_cons, List.map_nil, self, he]
    congr 1
    apply List.map_congr_left
    intro o ho
    rw [ag o ho]
    congr 1
    apply ce2_congr
    intro j
    cases hj : r o j with
    | none => rfl
    | some o' =>
      show some (ad o') = some (va_up ad n q o')
      rw [ag o' (hc o ho j o' hj)]
  · exact List.nodup_append.mpr ⟨hA.1, by simp, fun a ha b hb => by rw [List.mem_singleton] at hb; subst hb; exact fun h => hn (h ▸ ha)⟩
  · intro o ho o' ho' h
    rcases List.mem_append.mp ho with h1 | h1 <;> rcases List.mem_append.mp ho' with h2 | h2
    · rw [ag o h1, ag o' h2] at h
      exact hA.2.1 o h1 o' h2 h
    · rw [List.mem_singleton] at h2
      subst h2
      rw [ag o h1, self] at h
      exact absurd h (hq o h1)
    · rw [List.mem_singleton] at h1
      subst h1
      rw [ag o' h2, self] at h
      exact absurd h.symm (hq o' h2)
    · rw [List.mem_singleton] at h1 h2
      rw [h1, h2]
  · intro o ho
    rcases List.mem_append.mp ho with h1 | h1
    · rw [ag o h1]; exact hA.2.2 o h1
    · rw [List.mem_singleton] at h1
      subst h1
      rw [self]
      exact hD.2 (ws2 cy ad r Ls).length (q, e) (by rw [List.getElem?_append_right (Nat.le_refl _)]; simp)
  · intro o ho j o' h
    rcases List.mem_append.mp ho with h1 | h1
    · exact List.mem_append_left _ (hc o h1 j o' h)
    · rw [List.mem_singleton] at h1
      subst h1
      rw [hr j] at h
      cases h
/-! the judgement of a growing world. Refs in the lists are NUMBERS: dv puts the addresses in. -/
def dv (ad : Nat → Nat) (v : Value) : Value := match v with
  | .ref o => .ref (ad o)
  | w => w
def dL (ad : Nat → Nat) (L : List (Nat × Value)) : List (Nat × Value) := L.map (fun q => (q.1, dv ad q.2))
def Li (Ls : List Nat) (v : Value) : Prop := ∀ o, v = .ref o → o ∈ Ls
def nmw (k : Nat) : Cond := ([.methodLinkNest "NameChart" 9 ⟨"NameChart$Chart", "<init>", "()V"⟩ "NameChart", .methodLinkNest "NameChart$History" 17 ⟨"NameChart$Chart", "<init>", "()V"⟩ "NameChart", .methodLinkNest "NameChart$Layout" 21 ⟨"NameChart$Box", "<init>", "()V"⟩ "NameChart", .methodLinkNest "NameChart" 32 ⟨"NameChart$Parts", "<init>", "()V"⟩ "NameChart", .methodLinkNest "NameChart" 39 ⟨"NameChart$Search", "<init>", "()V"⟩ "NameChart", .methodLinkNest "NameChart" 46 ⟨"NameChart$Plan", "<init>", "()V"⟩ "NameChart", .methodLinkNest "NameChart$Plan" 23 ⟨"NameChart$Box", "<init>", "()V"⟩ "NameChart", .methodLinkNest "NameChart" 53 ⟨"NameChart$Box", "<init>", "()V"⟩ "NameChart"] : List Cond).getD k .tt
theorem nmw_on {k : Nat} (hk : k < 8) : (nmw k).onTables = true := by
  rcases (show k = 0 ∨ k = 1 ∨ k = 2 ∨ k = 3 ∨ k = 4 ∨ k = 5 ∨ k = 6 ∨ k = 7 by omega) with rfl | rfl | rfl | rfl | rfl | rfl | rfl | rfl <;> rfl
theorem nmw_warm {k : Nat} {s U : State} (hk : k < 8) (hW : s.WarmedH U.vm) (h : va_Nw (nmw k) s) : va_Nw (nmw k) U := by
  rcases (show k = 0 ∨ k = 1 ∨ k = 2 ∨ k = 3 ∨ k = 4 ∨ k = 5 ∨ k = 6 ∨ k = 7 by omega) with rfl | rfl | rfl | rfl | rfl | rfl | rfl | rfl <;> exact va_Nw.warmM hW h
def xin (X : Cx) : Prop := match X with
  | (_, _, _, _, _, _, _, _, meth, _, _, _, _, _, _, _, _, _, _) => meth.name = "<init>"
/-- X as for J (its ad: the addresses at the start), and L0 what lived at the start -/
def JD (X : Cx) (L0 Ls : List Nat) (r : Nat → Nat → Option Nat) (kc ks pc : Nat) (L : List (Nat × Value)) (st : List Value) : Prop :=
  match X with
  | (p, l, e, R, s, m, args, below, meth, c, D, cy, ad0, A, _, _, _, _, qq) =>
    ∀ (ad : Nat → Nat) (H : Heap) (locs : List Loc) (ls : Array Slot), (∀ o ∈ L0, o ∈ Ls) → (∀ o ∈ L0, ad o = ad0 o) → Cl r Ls → Ap2 A ad Ls → (∀ q ∈ L, Li Ls q.2) → (∀ v ∈ st, Li Ls v) → va_P D vwCl (ws2 cy ad r Ls) H → va_S A s.heap H locs → lv_has ls c.maxLocals (dL ad L) → W p l e R s m args below meth c H locs kc ks qq (F0 m pc ls (st.map (dv ad)))
def Gg (X : Cx) (cc : ByteArray) (own : String) (nL fr mc ms : Nat) : Prop :=
  match X with
  | (p, _, _, R, s, m, args, _, meth, c, D, cy, _, A, _, _, _, _, _) =>
    p.tables.exec = Jvm.exec ∧ c.code = cc ∧ c.maxLocals = nL ∧ s.vm.findClass own = some m.cls ∧ (∀ w ∈ gt, w.before args s = true) ∧ va_K D vwCl (tys cy) s ∧ (∀ q, s.heap.size ≤ q → A q) ∧ meth.locks = false ∧ fr ≤ R.frames ∧ 64 * fr ≤ R.locals ∧ mc ≤ R.cells ∧ ms ≤ R.slots ∧ va_AO RX0 s ∧ va_AO RX1 s ∧ ∀ k, k < 8 → va_Nw (nmw k) s
