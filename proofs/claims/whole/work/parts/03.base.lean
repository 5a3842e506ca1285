/-! THE MEMORY AND THE SHAPE: objects have numbers; what a number is (kd), how long an array is (ln), where its references go (rf) never changes behind the constructors; the memory holds the ints (and booleans) and the longs. -/
abbrev Me : Type := (Nat → Nat → Int32) × (Nat → Nat → Int64)
def si (m : Me) (o j : Nat) (v : Int32) : Me := (fun a b => if a = o ∧ b = j then v else m.1 a b, m.2)
def sl (m : Me) (o j : Nat) (v : Int64) : Me := (m.1, fun a b => if a = o ∧ b = j then v else m.2 a b)
def sr (m : Me) (o : Nat) (f : Nat → Int32) : Me := (fun a => if a = o then f else m.1 a, m.2)
/-- class (0 .. 8) or array (20 int, 21 long, 22 boolean, 23 Box, 24 Chart); 99: nothing -/
def kd (o : Nat) : Nat :=
  if o < 10 then [7, 2, 24, 3, 23, 20, 4, 20, 20, 6].getD o 99
  else if o < 100 then (if o % 10 = 0 then 1 else 20)
  else if o < 111 then [20, 22, 20, 21, 21, 5, 20, 20, 20, 20, 20].getD (o - 100) 99
  else if o < 200 then 99
  else if o < 223 then [8, 20, 20, 20, 20, 20, 20, 20, 20, 20, 20, 21, 21, 20, 22, 20, 20, 20, 20, 20, 20, 20, 20].getD (o - 200) 99
  else if o < 1000 then 99
  else if o < 1388 then 0 else 99
def ln (o : Nat) : Nat :=
  if o < 10 then [0, 0, 8, 0, 384, 24, 0, 24, 24, 0].getD o 0
  else if o < 100 then (if 8 ≤ o % 10 then 20 else 24)
  else if o < 111 then [7, 7, 119, 119, 119, 0, 24, 24, 24, 24, 24].getD (o - 100) 0
  else [0, 24, 24, 24, 24, 24, 24, 24, 20, 20, 1680, 8, 8, 24, 384, 24, 24, 24, 25, 24, 24, 24, 24].getD (o - 200) 0
def rf (o j : Nat) : Option Nat :=
  if o = 0 then [10, 1, 3, 6, 9, 105, 1384, 1385, 109, 110][j]?
  else if o = 1 then [2][j]?
  else if o = 2 then some (20 + 10 * j)
  else if o = 3 then [4, 5][j]?
  else if o = 4 then some (1000 + j)
  else if o = 6 then [7, 8][j]?
  else if o = 9 then [100, 101, 102, 103, 104][j]?
  else if o < 100 then some (o + j - 1)
  else if o = 105 then [106, 107, 108, 1386, 1387][j]?
  else [none, none, none, some 201, some 202, some 203, some 204, some 205, some 206, some 207, some 208, some 209, some 210, none, none, none, none, none, none, none, some 211, some 212, none, none, none, none, some 213, some 214, some 215, none, some 216, some 217, none, some 218, some 219, some 220, some 221, some 222].getD j none
/-- the slots of a class by their types: 0 int, 1 boolean, 2 long, 3 reference -/
def ftT : List (List Nat) := [[0, 0, 0, 0, 1, 0, 0, 0, 0], [0, 0, 3, 3, 3, 3, 3, 3, 3, 3, 3], [3, 0, 0], [3, 3, 1], [3, 3, 0, 0, 1], [3, 3, 3, 3, 3, 1], [3, 3, 3, 3, 3, 0, 2, 2, 0, 0], [3, 3, 3, 3, 3, 3, 3, 3, 3, 3], [0, 0, 0, 3, 3, 3, 3, 3, 3, 3, 3, 3, 3, 0, 0, 0, 0, 0, 0, 0, 3, 3, 2, 2, 2, 2, 3, 3, 3, 0, 3, 3, 0, 3, 3, 3, 3, 3]]
def ft (c j : Nat) : Nat := (ftT.getD c []).getD j 9
def nf (c : Nat) : Nat := (ftT.getD c []).length
def sv (ad : Nat → Nat) (m : Me) (o j t : Nat) : Value := if t < 2 then .int (m.1 o j) else if t = 2 then .long (m.2 o j) else va_rf ((rf o j).map ad)
def fsOf (ad : Nat → Nat) (m : Me) (o : Nat) : List Value := (List.range (nf (kd o))).map (fun j => sv ad m o j (ft (kd o) j))
def cel (cy : Nat → ClassId) (ad : Nat → Nat) (m : Me) (o : Nat) : va_E :=
  if kd o < 9 then .inr (kd o, fsOf ad m o)
  else if kd o = 20 then .inl (cy 0, ln o, .inl (m.1 o))
  else if kd o = 21 then .inl (cy 1, ln o, .inr (.inl (m.2 o)))
  else if kd o = 22 then .inl (cy 2, ln o, .inl (m.1 o))
  else if kd o = 23 then .inl (cy 3, ln o, .inr (.inr (.inr (.inr (fun i => (rf o i).map ad)))))
  else .inl (cy 4, ln o, .inr (.inr (.inr (.inr (fun i => (rf o i).map ad)))))
def Lv : List Nat := (List.range 1388).filter (fun o => kd o != 99)
theorem Lv_in {o : Nat} (h : kd o ≠ 99) : o ∈ Lv := by
  refine List.mem_filter.mpr ⟨List.mem_range.mpr ?_, by simpa using h⟩
  rcases Nat.lt_or_ge o 1388 with q | q
  · exact q
  · exact absurd (by unfold kd; rw [if_neg (by omega), if_neg (by omega), if_neg (by omega), if_neg (by omega), if_neg (by omega), if_neg (by omega), if_neg (by omega)]) h
theorem Lv_nd : Lv.Nodup := List.Pairwise.filter _ List.nodup_range
def wsW (cy : Nat → ClassId) (ad : Nat → Nat) (m : Me) : va_W := Lv.map (fun o => (ad o, cel cy ad m o))
theorem ws_get {cy : Nat → ClassId} {ad : Nat → Nat} {m : Me} {o : Nat} (h : kd o ≠ 99) : ∃ k : Nat, Lv[k]? = some o ∧ (wsW cy ad m)[k]? = some (ad o, cel cy ad m o) := by
  obtain ⟨k, hk⟩ := List.getElem?_of_mem (Lv_in h)
  exact ⟨k, hk, by unfold wsW; rw [List.getElem?_map, hk]; rfl⟩
theorem ws_set {cy : Nat → ClassId} {ad : Nat → Nat} {m m' : Me} {o k : Nat} {e : va_E} (hk : Lv[k]? = some o) (h1 : cel cy ad m' o = e) (h2 : ∀ o', o' ≠ o → cel cy ad m' o' = cel cy ad m o') : (wsW cy ad m).set k (ad o, e) = wsW cy ad m' := by
  apply List.ext_getElem?
  intro i
  unfold wsW
  rw [List.getElem?_set, List.getElem?_map, List.length_map]
  by_cases hi : k = i
  · subst hi
    have hl := (List.getElem?_eq_some_iff.mp hk).1
    rw [if_pos rfl, if_pos hl, List.getElem?_map, hk, ← h1]
    rfl
  · rw [if_neg hi, List.getElem?_map]
    cases hx : Lv[i]? with
    | none => rfl
    | some o' =>
      have hne : o' ≠ o := by
        intro q
        subst q
        have hl := (List.getElem?_eq_some_iff.mp hk).1
        have e1 := (List.getElem?_eq_some_iff.mp hk).2
        have hl2 := (List.getElem?_eq_some_iff.mp hx).1
        have e2 := (List.getElem?_eq_some_iff.mp hx).2
        exact hi ((List.getElem_inj Lv_nd).mp (e1.trans e2.symm))
      show some (ad o', cel cy ad m o') = some (ad o', cel cy ad m' o')
      rw [h2 o' hne]
/-- the addresses are apart, and of A -/
def Ap (A : Nat → Prop) (ad : Nat → Nat) : Prop := (∀ o o' : Nat, kd o ≠ 99 → kd o' ≠ 99 → ad o = ad o' → o = o') ∧ ∀ o : Nat, kd o ≠ 99 → A (ad o)
theorem Lv_kd {k o : Nat} (h : Lv[k]? = some o) : kd o ≠ 99 := by
  have h1 := (List.mem_filter.mp (List.mem_of_getElem? h)).2
  simpa using h1
theorem Ap.D {A : Nat → Prop} {ad : Nat → Nat} (h : Ap A ad) (cy : Nat → ClassId) (m : Me) : va_D A (wsW cy ad m) := by
  have at' : ∀ (i : Nat) (p : Nat × va_E), (wsW cy ad m)[i]? = some p → ∃ o, Lv[i]? = some o ∧ p.1 = ad o := by
    intro i p hp
    unfold wsW at hp
    rw [List.getElem?_map] at hp
    cases hx : Lv[i]? with
    | none => rw [hx] at hp; cases hp
    | some o => rw [hx] at hp; cases hp; exact ⟨o, rfl, rfl⟩
  refine ⟨fun i j p q hp hq hpq => ?_, fun k q hq => ?_⟩
  · obtain ⟨o, h1, h2⟩ := at' i p hp
    obtain ⟨o', h3, h4⟩ := at' j q hq
    have ho := h.1 o o' (Lv_kd h1) (Lv_kd h3) (by rw [← h2, ← h4, hpq])
    subst ho
    have e1 := (List.getElem?_eq_some_iff.mp h1).2
    have e2 := (List.getElem?_eq_some_iff.mp h3).2
    exact (List.getElem_inj Lv_nd).mp (e1.trans e2.symm)
  · obtain ⟨o, h1, h2⟩ := at' k q hq
    rw [h2]
    exact h.2 o (Lv_kd h1)
theorem fs_at {ad : Nat → Nat} {m : Me} {o j : Nat} (h : j < nf (kd o)) : (fsOf ad m o)[j]? = some (sv ad m o j (ft (kd o) j)) := by
  unfold fsOf
  rw [List.getElem?_map, List.getElem?_range h]
  rfl
theorem cel_o {cy : Nat → ClassId} {ad : Nat → Nat} {m : Me} {o : Nat} (h : kd o < 9) : cel cy ad m o = .inr (kd o, fsOf ad m o) := by
  unfold cel; rw [if_pos h]
theorem cel_i {cy : Nat → ClassId} {ad : Nat → Nat} {m : Me} {o : Nat} (h : kd o = 20) : cel cy ad m o = .inl (cy 0, ln o, .inl (m.1 o)) := by
  unfold cel; rw [if_neg (by omega), if_pos h]
theorem cel_l {cy : Nat → ClassId} {ad : Nat → Nat} {m : Me} {o : Nat} (h : kd o = 21) : cel cy ad m o = .inl (cy 1, ln o, .inr (.inl (m.2 o))) := by
  unfold cel; rw [if_neg (by omega), if_neg (by omega), if_pos h]
theorem cel_z {cy : Nat → ClassId} {ad : Nat → Nat} {m : Me} {o : Nat} (h : kd o = 22) : cel cy ad m o = .inl (cy 2, ln o, .inl (m.1 o)) := by
  unfold cel; rw [if_neg (by omega), if_neg (by omega), if_neg (by omega), if_pos h]
theorem cel_b {cy : Nat → ClassId} {ad : Nat → Nat} {m : Me} {o : Nat} (h : kd o = 23) : cel cy ad m o = .inl (cy 3, ln o, .inr (.inr (.inr (.inr (fun i => (rf o i).map ad))))) := by
  unfold cel; rw [if_neg (by omega), if_neg (by omega), if_neg (by omega), if_neg (by omega), if_pos h]
theorem cel_c {cy : Nat → ClassId} {ad : Nat → Nat} {m : Me} {o : Nat} (h : kd o = 24) : cel cy ad m o = .inl (cy 4, ln o, .inr (.inr (.inr (.inr (fun i => (rf o i).map ad))))) := by
  unfold cel; rw [if_neg (by omega), if_neg (by omega), if_neg (by omega), if_neg (by omega), if_neg (by omega)]
/-- two memories that agree on an object's ints and longs have the same cell there -/
theorem cel_eq {cy : Nat → ClassId} {ad : Nat → Nat} {m m' : Me} {o : Nat} (h1 : m'.1 o = m.1 o) (h2 : m'.2 o = m.2 o) : cel cy ad m' o = cel cy ad m o := by
  unfold cel fsOf sv
  rw [h1, h2]
theorem si_ne {m : Me} {o o' j : Nat} {v : Int32} (h : o' ≠ o) : (si m o j v).1 o' = m.1 o' := by
  funext b; unfold si; simp [h]
theorem sl_ne {m : Me} {o o' j : Nat} {v : Int64} (h : o' ≠ o) : (sl m o j v).2 o' = m.2 o' := by
  funext b; unfold sl; simp [h]
theorem sr_ne {m : Me} {o o' : Nat} {f : Nat → Int32} (h : o' ≠ o) : (sr m o f).1 o' = m.1 o' := by
  unfold sr; simp [h]
theorem si_upd {m : Me} {o j : Nat} {v : Int32} : (si m o j v).1 o = upd (m.1 o) j v := by
  funext b; unfold si upd; simp
theorem sl_upd {m : Me} {o j : Nat} {v : Int64} : (sl m o j v).2 o = vp_updL (m.2 o) j v := by
  funext b; unfold sl vp_updL; simp
theorem fs_si {ad : Nat → Nat} {m : Me} {o j : Nat} {v : Int32} (ht : ft (kd o) j < 2) : fsOf ad (si m o j v) o = (fsOf ad m o).set j (.int v) := by
  apply List.ext_getElem?
  intro i
  unfold fsOf
  rw [List.getElem?_set, List.getElem?_map, List.getElem?_map, List.length_map, List.length_range]
  by_cases hi : j = i
  · subst hi
    rw [if_pos rfl]
    by_cases hl : j < nf (kd o)
    · rw [if_pos hl, List.getElem?_range hl]
      show some (sv ad (si m o j v) o j (ft (kd o) j)) = _
      unfold sv
      rw [if_pos ht]
      simp [si]
    · rw [if_neg hl, List.getElem?_eq_none (by simpa using hl)]
      rfl
  · rw [if_neg hi]
    by_cases hl : i < nf (kd o)
    · rw [List.getElem?_range hl]
      show some (sv ad (si m o j v) o i (ft (kd o) i)) = some (sv ad m o i (ft (kd o) i))
      unfold sv si
      simp [Ne.symm hi]
    · rw [List.getElem?_eq_none (by simpa using hl)]
      rfl
theorem fs_sl {ad : Nat → Nat} {m : Me} {o j : Nat} {v : Int64} (ht : ft (kd o) j = 2) : fsOf ad (sl m o j v) o = (fsOf ad m o).set j (.long v) := by
  apply List.ext_getElem?
  intro i
  unfold fsOf
  rw [List.getElem?_set, List.getElem?_map, List.getElem?_map, List.length_map, List.length_range]
  by_cases hi : j = i
  · subst hi
    rw [if_pos rfl]
    by_cases hl : j < nf (kd o)
    · rw [if_pos hl, List.getElem?_range hl]
      show some (sv ad (sl m o j v) o j (ft (kd o) j)) = _
      unfold sv
      rw [if_neg (by omega), if_pos ht]
      simp [sl]
    · rw [if_neg hl, List.getElem?_eq_none (by simpa using hl)]
      rfl
  · rw [if_neg hi]
    by_cases hl : i < nf (kd o)
    · rw [List.getElem?_range hl]
      show some (sv ad (sl m o j v) o i (ft (kd o) i)) = some (sv ad m o i (ft (kd o) i))
      unfold sv sl
      simp [Ne.symm hi]
    · rw [List.getElem?_eq_none (by simpa using hl)]
      rfl
theorem ws_si {cy : Nat → ClassId} {ad : Nat → Nat} {m : Me} {o j k : Nat} {v : Int32} (hk : Lv[k]? = some o) (h9 : kd o < 9) (ht : ft (kd o) j < 2) : (wsW cy ad m).set k (ad o, .inr (kd o, (fsOf ad m o).set j (.int v))) = wsW cy ad (si m o j v) :=
  ws_set hk (by rw [cel_o h9, fs_si ht]) (fun _ h => cel_eq (si_ne h) rfl)
theorem ws_sl {cy : Nat → ClassId} {ad : Nat → Nat} {m : Me} {o j k : Nat} {v : Int64} (hk : Lv[k]? = some o) (h9 : kd o < 9) (ht : ft (kd o) j = 2) : (wsW cy ad m).set k (ad o, .inr (kd o, (fsOf ad m o).set j (.long v))) = wsW cy ad (sl m o j v) :=
  ws_set hk (by rw [cel_o h9, fs_sl ht]) (fun _ h => cel_eq rfl (sl_ne h))
