/-- the words that stay through warming -/
def gtw (w : Cond) : Bool := k2_isCode w || goodWord w
def gt : List Cond := lw_tbl.filter gtw
theorem gt_in {w : Cond} (h : w ∈ lw_tbl) (hg : gtw w = true) : w ∈ gt := List.mem_filter.mpr ⟨h, hg⟩
theorem gt_sub {ws : List Cond} (h : ws.all (fun w => decide (w ∈ lw_tbl) && gtw w) = true) : ∀ w ∈ ws, w ∈ gt := by
  intro w hw
  have h1 := List.all_eq_true.mp h w hw
  simp only [Bool.and_eq_true, decide_eq_true_eq] at h1
  exact gt_in h1.1 h1.2
theorem gd_all : GoodIn gt gt := by
  intro w hw
  refine ⟨hw, ?_⟩
  have h2 := (List.mem_filter.mp hw).2
  by_cases hc : k2_isCode w = true
  · cases w <;> first | (simp [k2_isCode] at hc; done) | exact Or.inl rfl
  · unfold gtw at h2
    have hc' : k2_isCode w = false := by simpa using hc
    rw [hc', Bool.false_or] at h2
    exact good_of_word h2
theorem gd_y {y : MethodName} {cc : ByteArray} {nL : Nat} {ret : Option FieldType} (h : Cond.code y cc nL ret ∈ gt) : GoodIn gt (Cond.code y cc nL ret :: gt) := by
  intro w hw
  rcases List.mem_cons.mp hw with rfl | hw
  · exact gd_all _ h
  · exact gd_all _ hw
/-! the static arrays -/
def stt (k j : Nat) : Int32 := (([[1, -1, -1, 1, 1, -1, 0, 0], [-1, -1, 1, 1, 0, 0, -1, 1], [0, 1, 2, 3, 4, 8, 5, 9, 6, 10, 7, 11, 12, 13, 14, 15], [0, 1, 2, 3, 4, 6, 8, 10, 5, 7, 9, 11, 12, 13, 14, 15]] : List (List Int32)).getD k []).getD j 0
def stn (k : Nat) : String := ["ACROSS", "DOWN", "TURNED_BY_PRICE", "TURNED_RANK"].getD k ""
def stl (k : Nat) : Nat := [8, 8, 16, 16].getD k 0
def nsw (k : Nat) : Cond := ([.fieldLinkNest "NameChart$Box" 33 "NameChart" "ACROSS" "[I" "NameChart", .fieldLinkNest "NameChart$Box" 44 "NameChart" "DOWN" "[I" "NameChart", .fieldLinkNest "NameChart$Chart" 60 "NameChart" "TURNED_BY_PRICE" "[I" "NameChart", .fieldLinkNest "NameChart$Chart" 63 "NameChart" "TURNED_RANK" "[I" "NameChart"] : List Cond).getD k .tt
theorem nsw_warm {k : Nat} {s U : State} (hk : k < 4) (hW : s.WarmedH U.vm) (h : va_Nw (nsw k) s) : va_Nw (nsw k) U := by
  rcases (show k = 0 ∨ k = 1 ∨ k = 2 ∨ k = 3 by omega) with rfl | rfl | rfl | rfl <;> exact va_Nw.warmF hW h
def Sts (A : Nat → Prop) (sad : Nat → Nat) (s : State) (H : Heap) : Prop := ∀ k, k < 4 → va_Z "NameChart" (stn k) "[I" (.ref (sad k)) A s H ∧ va_T .int (sad k) (stl k) (fun j => .int (stt k j)) A s H ∧ va_Nw (nsw k) s
theorem Sts.kept {A : Nat → Prop} {sad : Nat → Nat} {s U : State} {H H1 : Heap} (h : Sts A sad s H) (hW : s.WarmedH U.vm) (hq : ∀ a : Nat, a < H.size → ¬ A a → H1[a]? = H[a]?) : Sts A sad U H1 :=
  fun k hk => ⟨((h k hk).1.moved hW.alike).kept hq, ((h k hk).2.1.moved hW.alike).kept hq, nsw_warm hk hW (h k hk).2.2⟩
def tys (cy : Nat → ClassId) : List (ClassId × FieldType) := [(cy 0, .int), (cy 1, .long), (cy 2, .boolean), (cy 3, .object RX0), (cy 4, .object RX1)]
/-! the judgement -/
abbrev Cx : Type := Program × Launch × Env × Room × State × MethodId × Array Value × List Frame × Method × Code × va_G × (Nat → ClassId) × (Nat → Nat) × (Nat → Prop) × (Nat → Nat) × Nat × Nat × (Option Value × Me) × (State → Prop)
def xad (X : Cx) : Nat → Nat := X.2.2.2.2.2.2.2.2.2.2.2.2.1
def xsa (X : Cx) : Nat → Nat := X.2.2.2.2.2.2.2.2.2.2.2.2.2.2.1
abbrev rX (X : Cx) (o : Nat) : Value := .ref (xad X o)
def J {ρ : Type} (X : Cx) (ov : ρ → Option Value × Me) (F : Option ρ) (mm : Me) (pc : Nat) (L : List (Nat × Value)) (st : List Value) : Prop :=
  match X with
  | (p, l, e, R, s, m, args, below, meth, c, D, cy, ad, A, _, kc, ks, fin, qq) =>
    ∀ res : ρ, F = some res → ov res = fin → ∀ (H : Heap) (locs : List Loc) (ls : Array Slot), va_P D vwCl (wsW cy ad mm) H → va_S A s.heap H locs → lv_has ls c.maxLocals L → W p l e R s m args below meth c H locs kc ks qq (F0 m pc ls st)
/-- what stands of the method: its code, its class, its locals; the room for fr frames more -/
def Gd (X : Cx) (cc : ByteArray) (own : String) (nL fr : Nat) : Prop :=
  match X with
  | (p, _, _, R, s, m, args, _, meth, c, D, cy, ad, A, sad, kc, ks, _, _) =>
    p.tables.exec = Jvm.exec ∧ c.code = cc ∧ c.maxLocals = nL ∧ s.vm.findClass own = some m.cls ∧ (∀ w ∈ gt, w.before args s = true) ∧ va_K D vwCl (tys cy) s ∧ Ap A ad ∧ Sts A sad s s.heap ∧ meth.locks = false ∧ fr ≤ R.frames ∧ 64 * fr ≤ R.locals ∧ kc ≤ R.cells ∧ ks ≤ R.slots
def Qf (D : va_G) (cy : Nat → ClassId) (ad : Nat → Nat) (A : Nat → Prop) (fin : Option Value × Me) : Array Value → State → Outcome → State → Prop := fun _ st oc t =>
  oc = .returned fin.1 ∧ va_P D vwCl (wsW cy ad fin.2) t.heap ∧ va_K D vwCl (tys cy) t ∧ va_F A st t
/-- the end of a method of ours -/
def Ge (X : Cx) (ret : Option FieldType) : Prop :=
  match X with
  | (_, _, _, _, s, _, args, below, meth, _, D, cy, ad, A, _, kc, ks, fin, qq) =>
    meth.sig.returnType = ret ∧ qq = MQ below (Qf D cy ad A fin) args s kc ks A
/-! what a method answers with: r an int and the memory, v the memory alone, p an int over a memory that stays -/
def oI : Int32 × Me → Option Value × Me := fun r => (some (.int r.1), r.2)
def oV : Me → Option Value × Me := fun r => (none, r)
def oP (m : Me) : Int32 → Option Value × Me := fun r => (some (.int r), m)
def oL (m : Me) : Int64 → Option Value × Me := fun r => (some (.long r), m)
def oR (ad : Nat → Nat) (m : Me) : Nat → Option Value × Me := fun r => (some (.ref (ad r)), m)
/-! the words of the pure text -/
def bd {α β : Type} (x : α) (k : α → β) : β := k x
def rd {α ρ : Type} (n : Nat) (i : Int32) (f : Nat → α) (K : α → Option ρ) : Option ρ := if i < 0 ∨ n ≤ i.toNatClampNeg then none else K (f i.toNatClampNeg)
def wi {ρ : Type} (m : Me) (o n : Nat) (i v : Int32) (K : Me → Option ρ) : Option ρ := if i < 0 ∨ n ≤ i.toNatClampNeg then none else K (si m o i.toNatClampNeg v)
def wl {ρ : Type} (m : Me) (o n : Nat) (i : Int32) (v : Int64) (K : Me → Option ρ) : Option ρ := if i < 0 ∨ n ≤ i.toNatClampNeg then none else K (sl m o i.toNatClampNeg v)
def wz {ρ : Type} (m : Me) (o n : Nat) (i v : Int32) (K : Me → Option ρ) : Option ρ := if i < 0 ∨ n ≤ i.toNatClampNeg then none else if v = 0 ∨ v = 1 then K (si m o i.toNatClampNeg v) else none
def pz {ρ : Type} (m : Me) (o j : Nat) (v : Int32) (K : Me → Option ρ) : Option ρ := if v = 0 ∨ v = 1 then K (si m o j v) else none
def zg {ρ : Type} (v : Int32) (r : ρ) : Option ρ := if v = 0 ∨ v = 1 then some r else none
def cI {α ρ : Type} (x : Option (α × Me)) (K : α → Me → Option ρ) : Option ρ := match x with
  | some r => K r.1 r.2
  | none => none
def cP {α ρ : Type} (x : Option α) (K : α → Option ρ) : Option ρ := match x with
  | some r => K r
  | none => none
section ROWS
variable {ρ : Type} {X : Cx} {ov : ρ → Option Value × Me} {F : Option ρ} {mm : Me} {pc : Nat} {L L' : List (Nat × Value)} {st : List Value} {cc : ByteArray} {own : String} {nL fr : Nat}
theorem r_sub (ks : List Nat) (hl : lv_pick L ks = L') (k : J X ov F mm pc L' st) : J X ov F mm pc L st := by
  obtain ⟨p, l, e, R, s, m, args, below, meth, c, D, cy, ad, A, sad, kc, ks', fin, qq⟩ := X
  intro res hF ho H locs ls hP hS h
  exact k res hF ho H locs ls hP hS (lv_sub h ks hl)
theorem r_none : J X ov (none : Option ρ) mm pc L st := by
  obtain ⟨p, l, e, R, s, m, args, below, meth, c, D, cy, ad, A, sad, kc, ks', fin, qq⟩ := X
  intro res hF
  cases hF
theorem r_ite {c : Prop} [Decidable c] {B C : Option ρ} (kt : c → J X ov B mm pc L st) (kf : ¬ c → J X ov C mm pc L st) : J X ov (if c then B else C) mm pc L st := by
  by_cases h : c
  · rw [if_pos h]; exact kt h
  · rw [if_neg h]; exact kf h
theorem r_join {κ : Type} {x : κ} {T : κ → Option ρ} (P : κ → Prop) (hx : P x) (ht : ∀ k, P k → J X ov (T k) mm pc L st) : J X ov (bd x T) mm pc L st := ht x hx
theorem r_name {α : Type} {x : α} {T : α → Option ρ} {f : α → List Value} (k : ∀ v, J X ov (T v) mm pc L (f v)) : J X ov (bd x T) mm pc L (f x) := k x

theorem r_iconst (hX : Gd X cc own nL fr) {n : Int} {v : Int32} (hd : decode cc pc = .ok (.iconst n, 1)) (hv : Int32.ofInt n = v) (k : J X ov F mm (pc + 1) L (.int v :: st)) : J X ov F mm pc L st := by
  obtain ⟨p, l, e, R, s, m, args, below, meth, c, D, cy, ad, A, sad, kc, ks, fin, qq⟩ := X
  obtain ⟨hx, hb, hml, hown, hts, hK, hA, hSt, hlk, hfr, hlo, hkc, hks⟩ := hX
  intro res hF ho H locs ls hP hS hl
  exact lv_iconst hx hb hd hv (k res hF ho H locs ls hP hS hl)
theorem r_bipush (hX : Gd X cc own nL fr) {n : Int} {v : Int32} (hd : decode cc pc = .ok (.bipush n, 2)) (hv : (Int8.ofInt n).toInt32 = v) (k : J X ov F mm (pc + 2) L (.int v :: st)) : J X ov F mm pc L st := by
  obtain ⟨p, l, e, R, s, m, args, below, meth, c, D, cy, ad, A, sad, kc, ks, fin, qq⟩ := X
  obtain ⟨hx, hb, hml, hown, hts, hK, hA, hSt, hlk, hfr, hlo, hkc, hks⟩ := hX
  intro res hF ho H locs ls hP hS hl
  exact lv_bipush hx hb hd hv (k res hF ho H locs ls hP hS hl)
theorem r_sipush (hX : Gd X cc own nL fr) {n : Int} {v : Int32} (hd : decode cc pc = .ok (.sipush n, 3)) (hv : (Int16.ofInt n).toInt32 = v) (k : J X ov F mm (pc + 3) L (.int v :: st)) : J X ov F mm pc L st := by
  obtain ⟨p, l, e, R, s, m, args, below, meth, c, D, cy, ad, A, sad, kc, ks, fin, qq⟩ := X
  obtain ⟨hx, hb, hml, hown, hts, hK, hA, hSt, hlk, hfr, hlo, hkc, hks⟩ := hX
  intro res hF ho H locs ls hP hS hl
  exact lv_sipush hx hb hd hv (k res hF ho H locs ls hP hS hl)
theorem r_lconst (hX : Gd X cc own nL fr) {n : Fin 2} {v : Int64} (hd : decode cc pc = .ok (.lconst n, 1)) (hv : Int64.ofNat (n : Nat) = v) (k : J X ov F mm (pc + 1) L (.long v :: st)) : J X ov F mm pc L st := by
  obtain ⟨p, l, e, R, s, m, args, below, meth, c, D, cy, ad, A, sad, kc, ks, fin, qq⟩ := X
  obtain ⟨hx, hb, hml, hown, hts, hK, hA, hSt, hlk, hfr, hlo, hkc, hks⟩ := hX
  intro res hF ho H locs ls hP hS hl
  exact lv_lconst hx hb hd hv (k res hF ho H locs ls hP hS hl)
theorem r_ldc (hX : Gd X cc own nL fr) {idx : Nat} {v : Int32} (hd : decode cc pc = .ok (.ldc idx, 2)) (hw : Cond.constant own idx v ∈ gt) (k : J X ov F mm (pc + 2) L (.int v :: st)) : J X ov F mm pc L st := by
  obtain ⟨p, l, e, R, s, m, args, below, meth, c, D, cy, ad, A, sad, kc, ks, fin, qq⟩ := X
  obtain ⟨hx, hb, hml, hown, hts, hK, hA, hSt, hlk, hfr, hlo, hkc, hks⟩ := hX
  intro res hF ho H locs ls hP hS hl
  exact lv_ldc hx hb hown (hts _ hw) hd (k res hF ho H locs ls hP hS hl)
theorem r_ldcw (hX : Gd X cc own nL fr) {idx : Nat} {v : Int32} (hd : decode cc pc = .ok (.ldc_w idx, 3)) (hw : Cond.constant own idx v ∈ gt) (k : J X ov F mm (pc + 3) L (.int v :: st)) : J X ov F mm pc L st := by
  obtain ⟨p, l, e, R, s, m, args, below, meth, c, D, cy, ad, A, sad, kc, ks, fin, qq⟩ := X
  obtain ⟨hx, hb, hml, hown, hts, hK, hA, hSt, hlk, hfr, hlo, hkc, hks⟩ := hX
  intro res hF ho H locs ls hP hS hl
  exact lv_ldcw hx hb hown (hts _ hw) hd (k res hF ho H locs ls hP hS hl)
theorem r_ldc2 (hX : Gd X cc own nL fr) {idx : Nat} {v : Int64} (hd : decode cc pc = .ok (.ldc2_w idx, 3)) (hw : Cond.constantLong own idx v ∈ gt) (k : J X ov F mm (pc + 3) L (.long v :: st)) : J X ov F mm pc L st := by
  obtain ⟨p, l, e, R, s, m, args, below, meth, c, D, cy, ad, A, sad, kc, ks, fin, qq⟩ := X
  obtain ⟨hx, hb, hml, hown, hts, hK, hA, hSt, hlk, hfr, hlo, hkc, hks⟩ := hX
  intro res hF ho H locs ls hP hS hl
  exact lv_ldc2 hx hb hown (hts _ hw) hd (k res hF ho H locs ls hP hS hl)
theorem r_iload_n (hX : Gd X cc own nL fr) {k4 : Fin 4} {i : Nat} {x : Int32} (q : Nat) (hd : decode cc pc = .ok (.iload_n k4, 1)) (hi : (k4 : Nat) = i) (hq : L[q]? = some (i, .int x)) (k : J X ov F mm (pc + 1) L (.int x :: st)) : J X ov F mm pc L st := by
  obtain ⟨p, l, e, R, s, m, args, below, meth, c, D, cy, ad, A, sad, kc, ks, fin, qq⟩ := X
  obtain ⟨hx, hb, hml, hown, hts, hK, hA, hSt, hlk, hfr, hlo, hkc, hks⟩ := hX
  intro res hF ho H locs ls hP hS hl
  exact lv_iload_n hx hb hd hi (lv_at hl q hq) (k res hF ho H locs ls hP hS hl)
theorem r_iload (hX : Gd X cc own nL fr) {i : Nat} {x : Int32} (q : Nat) (hd : decode cc pc = .ok (.iload i, 2)) (hq : L[q]? = some (i, .int x)) (k : J X ov F mm (pc + 2) L (.int x :: st)) : J X ov F mm pc L st := by
  obtain ⟨p, l, e, R, s, m, args, below, meth, c, D, cy, ad, A, sad, kc, ks, fin, qq⟩ := X
  obtain ⟨hx, hb, hml, hown, hts, hK, hA, hSt, hlk, hfr, hlo, hkc, hks⟩ := hX
  intro res hF ho H locs ls hP hS hl
  exact lv_iload hx hb hd (lv_at hl q hq) (k res hF ho H locs ls hP hS hl)
theorem r_istore_n (hX : Gd X cc own nL fr) {k4 : Fin 4} {i : Nat} {x : Int32} (hd : decode cc pc = .ok (.istore_n k4, 1)) (hi : (k4 : Nat) = i) (hn : i < nL) (hL : (i, Value.int x) :: L.filter (fun q => !(q.1 == i) && !(q.1 + 1 == i && q.2.category == 2)) = L') (k : J X ov F mm (pc + 1) L' st) : J X ov F mm pc L (.int x :: st) := by
  obtain ⟨p, l, e, R, s, m, args, below, meth, c, D, cy, ad, A, sad, kc, ks, fin, qq⟩ := X
  obtain ⟨hx, hb, hml, hown, hts, hK, hA, hSt, hlk, hfr, hlo, hkc, hks⟩ := hX
  intro res hF ho H locs ls hP hS hl
  refine lv_istore_n hx hb hd hi hl (by rw [hml]; exact hn) hL (fun ls hl => ?_)
  exact k res hF ho H locs ls hP hS hl
theorem r_istore (hX : Gd X cc own nL fr) {i : Nat} {x : Int32} (hd : decode cc pc = .ok (.istore i, 2)) (hn : i < nL) (hL : (i, Value.int x) :: L.filter (fun q => !(q.1 == i) && !(q.1 + 1 == i && q.2.category == 2)) = L') (k : J X ov F mm (pc + 2) L' st) : J X ov F mm pc L (.int x :: st) := by
  obtain ⟨p, l, e, R, s, m, args, below, meth, c, D, cy, ad, A, sad, kc, ks, fin, qq⟩ := X
  obtain ⟨hx, hb, hml, hown, hts, hK, hA, hSt, hlk, hfr, hlo, hkc, hks⟩ := hX
  intro res hF ho H locs ls hP hS hl
  refine lv_istore hx hb hd hl (by rw [hml]; exact hn) hL (fun ls hl => ?_)
  exact k res hF ho H locs ls hP hS hl
theorem r_lload_n (hX : Gd X cc own nL fr) {k4 : Fin 4} {i : Nat} {x : Int64} (q : Nat) (hd : decode cc pc = .ok (.lload_n k4, 1)) (hi : (k4 : Nat) = i) (hq : L[q]? = some (i, .long x)) (k : J X ov F mm (pc + 1) L (.long x :: st)) : J X ov F mm pc L st := by
  obtain ⟨p, l, e, R, s, m, args, below, meth, c, D, cy, ad, A, sad, kc, ks, fin, qq⟩ := X
  obtain ⟨hx, hb, hml, hown, hts, hK, hA, hSt, hlk, hfr, hlo, hkc, hks⟩ := hX
  intro res hF ho H locs ls hP hS hl
  exact lv_lload_n hx hb hd hi (lv_at hl q hq) (k res hF ho H locs ls hP hS hl)
theorem r_lload (hX : Gd X cc own nL fr) {i : Nat} {x : Int64} (q : Nat) (hd : decode cc pc = .ok (.lload i, 2)) (hq : L[q]? = some (i, .long x)) (k : J X ov F mm (pc + 2) L (.long x :: st)) : J X ov F mm pc L st := by
  obtain ⟨p, l, e, R, s, m, args, below, meth, c, D, cy, ad, A, sad, kc, ks, fin, qq⟩ := X
  obtain ⟨hx, hb, hml, hown, hts, hK, hA, hSt, hlk, hfr, hlo, hkc, hks⟩ := hX
  intro res hF ho H locs ls hP hS hl
  exact lv_lload hx hb hd (lv_at hl q hq) (k res hF ho H locs ls hP hS hl)
theorem r_lstore_n (hX : Gd X cc own nL fr) {k4 : Fin 4} {i : Nat} {x : Int64} (hd : decode cc pc = .ok (.lstore_n k4, 1)) (hi : (k4 : Nat) = i) (hn : i + 1 < nL) (hL : (i, Value.long x) :: L.filter (fun q => !(q.1 == i) && (!(q.1 == i + 1) && !(q.1 + 1 == i && q.2.category == 2))) = L') (k : J X ov F mm (pc + 1) L' st) : J X ov F mm pc L (.long x :: st) := by
  obtain ⟨p, l, e, R, s, m, args, below, meth, c, D, cy, ad, A, sad, kc, ks, fin, qq⟩ := X
  obtain ⟨hx, hb, hml, hown, hts, hK, hA, hSt, hlk, hfr, hlo, hkc, hks⟩ := hX
  intro res hF ho H locs ls hP hS hl
  refine lv_lstore_n hx hb hd hi hl (by rw [hml]; exact hn) hL (fun ls hl => ?_)
  exact k res hF ho H locs ls hP hS hl
theorem r_lstore (hX : Gd X cc own nL fr) {i : Nat} {x : Int64} (hd : decode cc pc = .ok (.lstore i, 2)) (hn : i + 1 < nL) (hL : (i, Value.long x) :: L.filter (fun q => !(q.1 == i) && (!(q.1 == i + 1) && !(q.1 + 1 == i && q.2.category == 2))) = L') (k : J X ov F mm (pc + 2) L' st) : J X ov F mm pc L (.long x :: st) := by
  obtain ⟨p, l, e, R, s, m, args, below, meth, c, D, cy, ad, A, sad, kc, ks, fin, qq⟩ := X
  obtain ⟨hx, hb, hml, hown, hts, hK, hA, hSt, hlk, hfr, hlo, hkc, hks⟩ := hX
  intro res hF ho H locs ls hP hS hl
  refine lv_lstore hx hb hd hl (by rw [hml]; exact hn) hL (fun ls hl => ?_)
  exact k res hF ho H locs ls hP hS hl
theorem r_aload_n (hX : Gd X cc own nL fr) {k4 : Fin 4} {i : Nat} {x : Nat} (q : Nat) (hd : decode cc pc = .ok (.aload_n k4, 1)) (hi : (k4 : Nat) = i) (hq : L[q]? = some (i, .ref x)) (k : J X ov F mm (pc + 1) L (.ref x :: st)) : J X ov F mm pc L st := by
  obtain ⟨p, l, e, R, s, m, args, below, meth, c, D, cy, ad, A, sad, kc, ks, fin, qq⟩ := X
  obtain ⟨hx, hb, hml, hown, hts, hK, hA, hSt, hlk, hfr, hlo, hkc, hks⟩ := hX
  intro res hF ho H locs ls hP hS hl
  exact lv_aload_n hx hb hd hi (lv_at hl q hq) (k res hF ho H locs ls hP hS hl)
theorem r_aload (hX : Gd X cc own nL fr) {i : Nat} {x : Nat} (q : Nat) (hd : decode cc pc = .ok (.aload i, 2)) (hq : L[q]? = some (i, .ref x)) (k : J X ov F mm (pc + 2) L (.ref x :: st)) : J X ov F mm pc L st := by
  obtain ⟨p, l, e, R, s, m, args, below, meth, c, D, cy, ad, A, sad, kc, ks, fin, qq⟩ := X
  obtain ⟨hx, hb, hml, hown, hts, hK, hA, hSt, hlk, hfr, hlo, hkc, hks⟩ := hX
  intro res hF ho H locs ls hP hS hl
  exact lv_aload hx hb hd (lv_at hl q hq) (k res hF ho H locs ls hP hS hl)
theorem r_astore_n (hX : Gd X cc own nL fr) {k4 : Fin 4} {i : Nat} {x : Nat} (hd : decode cc pc = .ok (.astore_n k4, 1)) (hi : (k4 : Nat) = i) (hn : i < nL) (hL : (i, Value.ref x) :: L.filter (fun q => !(q.1 == i) && !(q.1 + 1 == i && q.2.category == 2)) = L') (k : J X ov F mm (pc + 1) L' st) : J X ov F mm pc L (.ref x :: st) := by
  obtain ⟨p, l, e, R, s, m, args, below, meth, c, D, cy, ad, A, sad, kc, ks, fin, qq⟩ := X
  obtain ⟨hx, hb, hml, hown, hts, hK, hA, hSt, hlk, hfr, hlo, hkc, hks⟩ := hX
  intro res hF ho H locs ls hP hS hl
  refine lv_astore_n hx hb hd hi hl (by rw [hml]; exact hn) hL (fun ls hl => ?_)
  exact k res hF ho H locs ls hP hS hl
theorem r_astore (hX : Gd X cc own nL fr) {i : Nat} {x : Nat} (hd : decode cc pc = .ok (.astore i, 2)) (hn : i < nL) (hL : (i, Value.ref x) :: L.filter (fun q => !(q.1 == i) && !(q.1 + 1 == i && q.2.category == 2)) = L') (k : J X ov F mm (pc + 2) L' st) : J X ov F mm pc L (.ref x :: st) := by
  obtain ⟨p, l, e, R, s, m, args, below, meth, c, D, cy, ad, A, sad, kc, ks, fin, qq⟩ := X
  obtain ⟨hx, hb, hml, hown, hts, hK, hA, hSt, hlk, hfr, hlo, hkc, hks⟩ := hX
  intro res hF ho H locs ls hP hS hl
  refine lv_astore hx hb hd hl (by rw [hml]; exact hn) hL (fun ls hl => ?_)
  exact k res hF ho H locs ls hP hS hl
theorem r_iinc (hX : Gd X cc own nL fr) {i : Nat} {n : Int} {x v : Int32} (q : Nat) (hd : decode cc pc = .ok (.iinc i n, 3)) (hq : L[q]? = some (i, .int x)) (hv : x + Int32.ofInt n = v) (hn : i < nL) (hL : (i, Value.int v) :: L.filter (fun q => !(q.1 == i) && !(q.1 + 1 == i && q.2.category == 2)) = L') (k : J X ov F mm (pc + 3) L' st) : J X ov F mm pc L st := by
  obtain ⟨p, l, e, R, s, m, args, below, meth, c, D, cy, ad, A, sad, kc, ks, fin, qq⟩ := X
  obtain ⟨hx, hb, hml, hown, hts, hK, hA, hSt, hlk, hfr, hlo, hkc, hks⟩ := hX
  intro res hF ho H locs ls hP hS hl
  refine lv_iinc hx hb hd hl hq hv (by rw [hml]; exact hn) hL (fun ls hl => ?_)
  exact k res hF ho H locs ls hP hS hl
theorem r_iadd (hX : Gd X cc own nL fr) {x y : Int32} (hd : decode cc pc = .ok (.iadd, 1))  (k : J X ov F mm (pc + 1) L (.int (x + y) :: st)) : J X ov F mm pc L (.int y :: .int x :: st) := by
  obtain ⟨p, l, e, R, s, m, args, below, meth, c, D, cy, ad, A, sad, kc, ks, fin, qq⟩ := X
  obtain ⟨hx, hb, hml, hown, hts, hK, hA, hSt, hlk, hfr, hlo, hkc, hks⟩ := hX
  intro res hF ho H locs ls hP hS hl
  exact lv_iadd hx hb hd (k res hF ho H locs ls hP hS hl)
theorem r_isub (hX : Gd X cc own nL fr) {x y : Int32} (hd : decode cc pc = .ok (.isub, 1))  (k : J X ov F mm (pc + 1) L (.int (x - y) :: st)) : J X ov F mm pc L (.int y :: .int x :: st) := by
  obtain ⟨p, l, e, R, s, m, args, below, meth, c, D, cy, ad, A, sad, kc, ks, fin, qq⟩ := X
  obtain ⟨hx, hb, hml, hown, hts, hK, hA, hSt, hlk, hfr, hlo, hkc, hks⟩ := hX
  intro res hF ho H locs ls hP hS hl
  exact lv_isub hx hb hd (k res hF ho H locs ls hP hS hl)
theorem r_imul (hX : Gd X cc own nL fr) {x y : Int32} (hd : decode cc pc = .ok (.imul, 1))  (k : J X ov F mm (pc + 1) L (.int (x * y) :: st)) : J X ov F mm pc L (.int y :: .int x :: st) := by
  obtain ⟨p, l, e, R, s, m, args, below, meth, c, D, cy, ad, A, sad, kc, ks, fin, qq⟩ := X
  obtain ⟨hx, hb, hml, hown, hts, hK, hA, hSt, hlk, hfr, hlo, hkc, hks⟩ := hX
  intro res hF ho H locs ls hP hS hl
  exact lv_imul hx hb hd (k res hF ho H locs ls hP hS hl)
theorem r_iand (hX : Gd X cc own nL fr) {x y : Int32} (hd : decode cc pc = .ok (.iand, 1))  (k : J X ov F mm (pc + 1) L (.int (x &&& y) :: st)) : J X ov F mm pc L (.int y :: .int x :: st) := by
  obtain ⟨p, l, e, R, s, m, args, below, meth, c, D, cy, ad, A, sad, kc, ks, fin, qq⟩ := X
  obtain ⟨hx, hb, hml, hown, hts, hK, hA, hSt, hlk, hfr, hlo, hkc, hks⟩ := hX
  intro res hF ho H locs ls hP hS hl
  exact lv_iand hx hb hd (k res hF ho H locs ls hP hS hl)
theorem r_ior (hX : Gd X cc own nL fr) {x y : Int32} (hd : decode cc pc = .ok (.ior, 1))  (k : J X ov F mm (pc + 1) L (.int (x ||| y) :: st)) : J X ov F mm pc L (.int y :: .int x :: st) := by
  obtain ⟨p, l, e, R, s, m, args, below, meth, c, D, cy, ad, A, sad, kc, ks, fin, qq⟩ := X
  obtain ⟨hx, hb, hml, hown, hts, hK, hA, hSt, hlk, hfr, hlo, hkc, hks⟩ := hX
  intro res hF ho H locs ls hP hS hl
  exact lv_ior hx hb hd (k res hF ho H locs ls hP hS hl)
theorem r_ixor (hX : Gd X cc own nL fr) {x y : Int32} (hd : decode cc pc = .ok (.ixor, 1))  (k : J X ov F mm (pc + 1) L (.int (x ^^^ y) :: st)) : J X ov F mm pc L (.int y :: .int x :: st) := by
  obtain ⟨p, l, e, R, s, m, args, below, meth, c, D, cy, ad, A, sad, kc, ks, fin, qq⟩ := X
  obtain ⟨hx, hb, hml, hown, hts, hK, hA, hSt, hlk, hfr, hlo, hkc, hks⟩ := hX
  intro res hF ho H locs ls hP hS hl
  exact lv_ixor hx hb hd (k res hF ho H locs ls hP hS hl)
theorem r_ishl (hX : Gd X cc own nL fr) {x y : Int32} (hd : decode cc pc = .ok (.ishl, 1))  (k : J X ov F mm (pc + 1) L (.int (x <<< (y &&& 31)) :: st)) : J X ov F mm pc L (.int y :: .int x :: st) := by
  obtain ⟨p, l, e, R, s, m, args, below, meth, c, D, cy, ad, A, sad, kc, ks, fin, qq⟩ := X
  obtain ⟨hx, hb, hml, hown, hts, hK, hA, hSt, hlk, hfr, hlo, hkc, hks⟩ := hX
  intro res hF ho H locs ls hP hS hl
  exact lv_ishl hx hb hd (k res hF ho H locs ls hP hS hl)
theorem r_ishr (hX : Gd X cc own nL fr) {x y : Int32} (hd : decode cc pc = .ok (.ishr, 1))  (k : J X ov F mm (pc + 1) L (.int (x >>> (y &&& 31)) :: st)) : J X ov F mm pc L (.int y :: .int x :: st) := by
  obtain ⟨p, l, e, R, s, m, args, below, meth, c, D, cy, ad, A, sad, kc, ks, fin, qq⟩ := X
  obtain ⟨hx, hb, hml, hown, hts, hK, hA, hSt, hlk, hfr, hlo, hkc, hks⟩ := hX
  intro res hF ho H locs ls hP hS hl
  exact lv_ishr hx hb hd (k res hF ho H locs ls hP hS hl)
theorem r_idiv (hX : Gd X cc own nL fr) {x y : Int32} (hd : decode cc pc = .ok (.idiv, 1)) (hne : ¬ y = 0) (k : J X ov F mm (pc + 1) L (.int (x / y) :: st)) : J X ov F mm pc L (.int y :: .int x :: st) := by
  obtain ⟨p, l, e, R, s, m, args, below, meth, c, D, cy, ad, A, sad, kc, ks, fin, qq⟩ := X
  obtain ⟨hx, hb, hml, hown, hts, hK, hA, hSt, hlk, hfr, hlo, hkc, hks⟩ := hX
  intro res hF ho H locs ls hP hS hl
  exact lv_idiv hx hb hd hne (k res hF ho H locs ls hP hS hl)
theorem r_irem (hX : Gd X cc own nL fr) {x y : Int32} (hd : decode cc pc = .ok (.irem, 1)) (hne : ¬ y = 0) (k : J X ov F mm (pc + 1) L (.int (x - x / y * y) :: st)) : J X ov F mm pc L (.int y :: .int x :: st) := by
  obtain ⟨p, l, e, R, s, m, args, below, meth, c, D, cy, ad, A, sad, kc, ks, fin, qq⟩ := X
  obtain ⟨hx, hb, hml, hown, hts, hK, hA, hSt, hlk, hfr, hlo, hkc, hks⟩ := hX
  intro res hF ho H locs ls hP hS hl
  exact lv_irem hx hb hd hne (k res hF ho H locs ls hP hS hl)
def ush (x y : Int32) : Int32 := (x.toUInt32 >>> (y.toUInt32 &&& Int32.toUInt32 31)).toInt32
def lush (x : Int64) (y : Int32) : Int64 := (x.toUInt64 >>> (y.toInt64.toUInt64 &&& Int64.toUInt64 63)).toInt64
def lsh (x : Int64) (y : Int32) : Int64 := x <<< (y.toInt64 &&& 63)
theorem r_iushr (hX : Gd X cc own nL fr) {x y : Int32} (hd : decode cc pc = .ok (.iushr, 1))  (k : J X ov F mm (pc + 1) L (.int (ush x y) :: st)) : J X ov F mm pc L (.int y :: .int x :: st) := by
  obtain ⟨p, l, e, R, s, m, args, below, meth, c, D, cy, ad, A, sad, kc, ks, fin, qq⟩ := X
  obtain ⟨hx, hb, hml, hown, hts, hK, hA, hSt, hlk, hfr, hlo, hkc, hks⟩ := hX
  intro res hF ho H locs ls hP hS hl
  exact lv_iushr hx hb hd rfl (k res hF ho H locs ls hP hS hl)
theorem r_lushr (hX : Gd X cc own nL fr) {x : Int64} {y : Int32} (hd : decode cc pc = .ok (.lushr, 1))  (k : J X ov F mm (pc + 1) L (.long (lush x y) :: st)) : J X ov F mm pc L (.int y :: .long x :: st) := by
  obtain ⟨p, l, e, R, s, m, args, below, meth, c, D, cy, ad, A, sad, kc, ks, fin, qq⟩ := X
  obtain ⟨hx, hb, hml, hown, hts, hK, hA, hSt, hlk, hfr, hlo, hkc, hks⟩ := hX
  intro res hF ho H locs ls hP hS hl
  exact lv_lushr hx hb hd rfl (k res hF ho H locs ls hP hS hl)
theorem r_lshl (hX : Gd X cc own nL fr) {x : Int64} {y : Int32} (hd : decode cc pc = .ok (.lshl, 1))  (k : J X ov F mm (pc + 1) L (.long (lsh x y) :: st)) : J X ov F mm pc L (.int y :: .long x :: st) := by
  obtain ⟨p, l, e, R, s, m, args, below, meth, c, D, cy, ad, A, sad, kc, ks, fin, qq⟩ := X
  obtain ⟨hx, hb, hml, hown, hts, hK, hA, hSt, hlk, hfr, hlo, hkc, hks⟩ := hX
  intro res hF ho H locs ls hP hS hl
  exact lv_lshl hx hb hd rfl (k res hF ho H locs ls hP hS hl)
theorem r_ineg (hX : Gd X cc own nL fr) {x : Int32} (hd : decode cc pc = .ok (.ineg, 1))  (k : J X ov F mm (pc + 1) L (.int (-x) :: st)) : J X ov F mm pc L (.int x :: st) := by
  obtain ⟨p, l, e, R, s, m, args, below, meth, c, D, cy, ad, A, sad, kc, ks, fin, qq⟩ := X
  obtain ⟨hx, hb, hml, hown, hts, hK, hA, hSt, hlk, hfr, hlo, hkc, hks⟩ := hX
  intro res hF ho H locs ls hP hS hl
  exact lv_ineg hx hb hd (k res hF ho H locs ls hP hS hl)
theorem r_lneg (hX : Gd X cc own nL fr) {x : Int64} (hd : decode cc pc = .ok (.lneg, 1))  (k : J X ov F mm (pc + 1) L (.long (-x) :: st)) : J X ov F mm pc L (.long x :: st) := by
  obtain ⟨p, l, e, R, s, m, args, below, meth, c, D, cy, ad, A, sad, kc, ks, fin, qq⟩ := X
  obtain ⟨hx, hb, hml, hown, hts, hK, hA, hSt, hlk, hfr, hlo, hkc, hks⟩ := hX
  intro res hF ho H locs ls hP hS hl
  exact lv_lneg hx hb hd (k res hF ho H locs ls hP hS hl)
theorem r_ladd (hX : Gd X cc own nL fr) {x y : Int64} (hd : decode cc pc = .ok (.ladd, 1))  (k : J X ov F mm (pc + 1) L (.long (x + y) :: st)) : J X ov F mm pc L (.long y :: .long x :: st) := by
  obtain ⟨p, l, e, R, s, m, args, below, meth, c, D, cy, ad, A, sad, kc, ks, fin, qq⟩ := X
  obtain ⟨hx, hb, hml, hown, hts, hK, hA, hSt, hlk, hfr, hlo, hkc, hks⟩ := hX
  intro res hF ho H locs ls hP hS hl
  exact lv_ladd hx hb hd (k res hF ho H locs ls hP hS hl)
theorem r_lsub (hX : Gd X cc own nL fr) {x y : Int64} (hd : decode cc pc = .ok (.lsub, 1))  (k : J X ov F mm (pc + 1) L (.long (x - y) :: st)) : J X ov F mm pc L (.long y :: .long x :: st) := by
  obtain ⟨p, l, e, R, s, m, args, below, meth, c, D, cy, ad, A, sad, kc, ks, fin, qq⟩ := X
  obtain ⟨hx, hb, hml, hown, hts, hK, hA, hSt, hlk, hfr, hlo, hkc, hks⟩ := hX
  intro res hF ho H locs ls hP hS hl
  exact lv_lsub hx hb hd (k res hF ho H locs ls hP hS hl)
theorem r_lmul (hX : Gd X cc own nL fr) {x y : Int64} (hd : decode cc pc = .ok (.lmul, 1))  (k : J X ov F mm (pc + 1) L (.long (x * y) :: st)) : J X ov F mm pc L (.long y :: .long x :: st) := by
  obtain ⟨p, l, e, R, s, m, args, below, meth, c, D, cy, ad, A, sad, kc, ks, fin, qq⟩ := X
  obtain ⟨hx, hb, hml, hown, hts, hK, hA, hSt, hlk, hfr, hlo, hkc, hks⟩ := hX
  intro res hF ho H locs ls hP hS hl
  exact lv_lmul hx hb hd (k res hF ho H locs ls hP hS hl)
theorem r_land (hX : Gd X cc own nL fr) {x y : Int64} (hd : decode cc pc = .ok (.land, 1))  (k : J X ov F mm (pc + 1) L (.long (x &&& y) :: st)) : J X ov F mm pc L (.long y :: .long x :: st) := by
  obtain ⟨p, l, e, R, s, m, args, below, meth, c, D, cy, ad, A, sad, kc, ks, fin, qq⟩ := X
  obtain ⟨hx, hb, hml, hown, hts, hK, hA, hSt, hlk, hfr, hlo, hkc, hks⟩ := hX
  intro res hF ho H locs ls hP hS hl
  exact lv_land hx hb hd (k res hF ho H locs ls hP hS hl)
theorem r_lor (hX : Gd X cc own nL fr) {x y : Int64} (hd : decode cc pc = .ok (.lor, 1))  (k : J X ov F mm (pc + 1) L (.long (x ||| y) :: st)) : J X ov F mm pc L (.long y :: .long x :: st) := by
  obtain ⟨p, l, e, R, s, m, args, below, meth, c, D, cy, ad, A, sad, kc, ks, fin, qq⟩ := X
  obtain ⟨hx, hb, hml, hown, hts, hK, hA, hSt, hlk, hfr, hlo, hkc, hks⟩ := hX
  intro res hF ho H locs ls hP hS hl
  exact lv_lor hx hb hd (k res hF ho H locs ls hP hS hl)
theorem r_lxor (hX : Gd X cc own nL fr) {x y : Int64} (hd : decode cc pc = .ok (.lxor, 1))  (k : J X ov F mm (pc + 1) L (.long (x ^^^ y) :: st)) : J X ov F mm pc L (.long y :: .long x :: st) := by
  obtain ⟨p, l, e, R, s, m, args, below, meth, c, D, cy, ad, A, sad, kc, ks, fin, qq⟩ := X
  obtain ⟨hx, hb, hml, hown, hts, hK, hA, hSt, hlk, hfr, hlo, hkc, hks⟩ := hX
  intro res hF ho H locs ls hP hS hl
  exact lv_lxor hx hb hd (k res hF ho H locs ls hP hS hl)
theorem r_i2l (hX : Gd X cc own nL fr) {x : Int32} (hd : decode cc pc = .ok (.i2l, 1))  (k : J X ov F mm (pc + 1) L (.long x.toInt64 :: st)) : J X ov F mm pc L (.int x :: st) := by
  obtain ⟨p, l, e, R, s, m, args, below, meth, c, D, cy, ad, A, sad, kc, ks, fin, qq⟩ := X
  obtain ⟨hx, hb, hml, hown, hts, hK, hA, hSt, hlk, hfr, hlo, hkc, hks⟩ := hX
  intro res hF ho H locs ls hP hS hl
  exact lv_i2l hx hb hd rfl (k res hF ho H locs ls hP hS hl)
theorem r_l2i (hX : Gd X cc own nL fr) {x : Int64} (hd : decode cc pc = .ok (.l2i, 1))  (k : J X ov F mm (pc + 1) L (.int x.toInt32 :: st)) : J X ov F mm pc L (.long x :: st) := by
  obtain ⟨p, l, e, R, s, m, args, below, meth, c, D, cy, ad, A, sad, kc, ks, fin, qq⟩ := X
  obtain ⟨hx, hb, hml, hown, hts, hK, hA, hSt, hlk, hfr, hlo, hkc, hks⟩ := hX
  intro res hF ho H locs ls hP hS hl
  exact lv_l2i hx hb hd rfl (k res hF ho H locs ls hP hS hl)
theorem r_lcmp (hX : Gd X cc own nL fr) {x y : Int64} (hd : decode cc pc = .ok (.lcmp, 1))  (k : J X ov F mm (pc + 1) L (.int (lg_cmp x y) :: st)) : J X ov F mm pc L (.long y :: .long x :: st) := by
  obtain ⟨p, l, e, R, s, m, args, below, meth, c, D, cy, ad, A, sad, kc, ks, fin, qq⟩ := X
  obtain ⟨hx, hb, hml, hown, hts, hK, hA, hSt, hlk, hfr, hlo, hkc, hks⟩ := hX
  intro res hF ho H locs ls hP hS hl
  exact W.lcmp hx hb hd (k res hF ho H locs ls hP hS hl)
theorem r_dup (hX : Gd X cc own nL fr) {va : Value} (hd : decode cc pc = .ok (.dup, 1)) (hva : va.category = 1) (k : J X ov F mm (pc + 1) L (va :: va :: st)) : J X ov F mm pc L (va :: st) := by
  obtain ⟨p, l, e, R, s, m, args, below, meth, c, D, cy, ad, A, sad, kc, ks, fin, qq⟩ := X
  obtain ⟨hx, hb, hml, hown, hts, hK, hA, hSt, hlk, hfr, hlo, hkc, hks⟩ := hX
  intro res hF ho H locs ls hP hS hl
  exact lv_dup hx hb hd hva (k res hF ho H locs ls hP hS hl)
theorem r_dup_x1 (hX : Gd X cc own nL fr) {va vb : Value} (hd : decode cc pc = .ok (.dup_x1, 1)) (hva : va.category = 1) (hvb : vb.category = 1) (k : J X ov F mm (pc + 1) L (va :: vb :: va :: st)) : J X ov F mm pc L (va :: vb :: st) := by
  obtain ⟨p, l, e, R, s, m, args, below, meth, c, D, cy, ad, A, sad, kc, ks, fin, qq⟩ := X
  obtain ⟨hx, hb, hml, hown, hts, hK, hA, hSt, hlk, hfr, hlo, hkc, hks⟩ := hX
  intro res hF ho H locs ls hP hS hl
  exact lv_dup_x1 hx hb hd hva hvb (k res hF ho H locs ls hP hS hl)
theorem r_dup2 (hX : Gd X cc own nL fr) {va vb : Value} (hd : decode cc pc = .ok (.dup2, 1)) (hva : va.category = 1) (hvb : vb.category = 1) (k : J X ov F mm (pc + 1) L (va :: vb :: va :: vb :: st)) : J X ov F mm pc L (va :: vb :: st) := by
  obtain ⟨p, l, e, R, s, m, args, below, meth, c, D, cy, ad, A, sad, kc, ks, fin, qq⟩ := X
  obtain ⟨hx, hb, hml, hown, hts, hK, hA, hSt, hlk, hfr, hlo, hkc, hks⟩ := hX
  intro res hF ho H locs ls hP hS hl
  exact lv_dup2_11 hx hb hd hva hvb (k res hF ho H locs ls hP hS hl)
theorem r_if_eq (hX : Gd X cc own nL fr) {x : Int32} {off : Int} {tgt : Nat} {B C : Option ρ} (hd : decode cc pc = .ok (.ifCond .eq off, 3)) (ht : (pc : Int) + off = (tgt : Int)) (kt : J X ov B mm tgt L st) (kf : J X ov C mm (pc + 3) L st) : J X ov (if x = 0 then B else C) mm pc L (.int x :: st) := by
  obtain ⟨p, l, e, R, s, m, args, below, meth, c, D, cy, ad, A, sad, kc, ks, fin, qq⟩ := X
  obtain ⟨hx, hb, hml, hown, hts, hK, hA, hSt, hlk, hfr, hlo, hkc, hks⟩ := hX
  intro res hF ho H locs ls hP hS hl
  refine lv_if_eq hx hb hd ht (fun h => ?_) (fun h => ?_)
  · rw [if_pos h] at hF; exact kt res hF ho H locs ls hP hS hl
  · rw [if_neg h] at hF; exact kf res hF ho H locs ls hP hS hl
theorem r_icmp_eq (hX : Gd X cc own nL fr) {x y : Int32} {off : Int} {tgt : Nat} {B C : Option ρ} (hd : decode cc pc = .ok (.if_icmp .eq off, 3)) (ht : (pc : Int) + off = (tgt : Int)) (kt : J X ov B mm tgt L st) (kf : J X ov C mm (pc + 3) L st) : J X ov (if x = y then B else C) mm pc L (.int y :: .int x :: st) := by
  obtain ⟨p, l, e, R, s, m, args, below, meth, c, D, cy, ad, A, sad, kc, ks, fin, qq⟩ := X
  obtain ⟨hx, hb, hml, hown, hts, hK, hA, hSt, hlk, hfr, hlo, hkc, hks⟩ := hX
  intro res hF ho H locs ls hP hS hl
  refine lv_icmp_eq hx hb hd ht (fun h => ?_) (fun h => ?_)
  · rw [if_pos h] at hF; exact kt res hF ho H locs ls hP hS hl
  · rw [if_neg h] at hF; exact kf res hF ho H locs ls hP hS hl
theorem r_if_ne (hX : Gd X cc own nL fr) {x : Int32} {off : Int} {tgt : Nat} {B C : Option ρ} (hd : decode cc pc = .ok (.ifCond .ne off, 3)) (ht : (pc : Int) + off = (tgt : Int)) (kt : J X ov C mm tgt L st) (kf : J X ov B mm (pc + 3) L st) : J X ov (if x = 0 then B else C) mm pc L (.int x :: st) := by
  obtain ⟨p, l, e, R, s, m, args, below, meth, c, D, cy, ad, A, sad, kc, ks, fin, qq⟩ := X
  obtain ⟨hx, hb, hml, hown, hts, hK, hA, hSt, hlk, hfr, hlo, hkc, hks⟩ := hX
  intro res hF ho H locs ls hP hS hl
  refine lv_if_ne hx hb hd ht (fun h => ?_) (fun h => ?_)
  · rw [if_neg h] at hF; exact kt res hF ho H locs ls hP hS hl
  · rw [if_pos h] at hF; exact kf res hF ho H locs ls hP hS hl
theorem r_icmp_ne (hX : Gd X cc own nL fr) {x y : Int32} {off : Int} {tgt : Nat} {B C : Option ρ} (hd : decode cc pc = .ok (.if_icmp .ne off, 3)) (ht : (pc : Int) + off = (tgt : Int)) (kt : J X ov C mm tgt L st) (kf : J X ov B mm (pc + 3) L st) : J X ov (if x = y then B else C) mm pc L (.int y :: .int x :: st) := by
  obtain ⟨p, l, e, R, s, m, args, below, meth, c, D, cy, ad, A, sad, kc, ks, fin, qq⟩ := X
  obtain ⟨hx, hb, hml, hown, hts, hK, hA, hSt, hlk, hfr, hlo, hkc, hks⟩ := hX
  intro res hF ho H locs ls hP hS hl
  refine lv_icmp_ne hx hb hd ht (fun h => ?_) (fun h => ?_)
  · rw [if_neg h] at hF; exact kt res hF ho H locs ls hP hS hl
  · rw [if_pos h] at hF; exact kf res hF ho H locs ls hP hS hl
theorem r_if_lt (hX : Gd X cc own nL fr) {x : Int32} {off : Int} {tgt : Nat} {B C : Option ρ} (hd : decode cc pc = .ok (.ifCond .lt off, 3)) (ht : (pc : Int) + off = (tgt : Int)) (kt : J X ov B mm tgt L st) (kf : J X ov C mm (pc + 3) L st) : J X ov (if x < 0 then B else C) mm pc L (.int x :: st) := by
  obtain ⟨p, l, e, R, s, m, args, below, meth, c, D, cy, ad, A, sad, kc, ks, fin, qq⟩ := X
  obtain ⟨hx, hb, hml, hown, hts, hK, hA, hSt, hlk, hfr, hlo, hkc, hks⟩ := hX
  intro res hF ho H locs ls hP hS hl
  refine lv_if_lt hx hb hd ht (fun h => ?_) (fun h => ?_)
  · rw [if_pos h] at hF; exact kt res hF ho H locs ls hP hS hl
  · rw [if_neg h] at hF; exact kf res hF ho H locs ls hP hS hl
theorem r_icmp_lt (hX : Gd X cc own nL fr) {x y : Int32} {off : Int} {tgt : Nat} {B C : Option ρ} (hd : decode cc pc = .ok (.if_icmp .lt off, 3)) (ht : (pc : Int) + off = (tgt : Int)) (kt : J X ov B mm tgt L st) (kf : J X ov C mm (pc + 3) L st) : J X ov (if x < y then B else C) mm pc L (.int y :: .int x :: st) := by
  obtain ⟨p, l, e, R, s, m, args, below, meth, c, D, cy, ad, A, sad, kc, ks, fin, qq⟩ := X
  obtain ⟨hx, hb, hml, hown, hts, hK, hA, hSt, hlk, hfr, hlo, hkc, hks⟩ := hX
  intro res hF ho H locs ls hP hS hl
  refine lv_icmp_lt hx hb hd ht (fun h => ?_) (fun h => ?_)
  · rw [if_pos h] at hF; exact kt res hF ho H locs ls hP hS hl
  · rw [if_neg h] at hF; exact kf res hF ho H locs ls hP hS hl
theorem r_if_ge (hX : Gd X cc own nL fr) {x : Int32} {off : Int} {tgt : Nat} {B C : Option ρ} (hd : decode cc pc = .ok (.ifCond .ge off, 3)) (ht : (pc : Int) + off = (tgt : Int)) (kt : J X ov B mm tgt L st) (kf : J X ov C mm (pc + 3) L st) : J X ov (if 0 ≤ x then B else C) mm pc L (.int x :: st) := by
  obtain ⟨p, l, e, R, s, m, args, below, meth, c, D, cy, ad, A, sad, kc, ks, fin, qq⟩ := X
  obtain ⟨hx, hb, hml, hown, hts, hK, hA, hSt, hlk, hfr, hlo, hkc, hks⟩ := hX
  intro res hF ho H locs ls hP hS hl
  refine lv_if_ge hx hb hd ht (fun h => ?_) (fun h => ?_)
  · rw [if_pos h] at hF; exact kt res hF ho H locs ls hP hS hl
  · rw [if_neg h] at hF; exact kf res hF ho H locs ls hP hS hl
theorem r_icmp_ge (hX : Gd X cc own nL fr) {x y : Int32} {off : Int} {tgt : Nat} {B C : Option ρ} (hd : decode cc pc = .ok (.if_icmp .ge off, 3)) (ht : (pc : Int) + off = (tgt : Int)) (kt : J X ov B mm tgt L st) (kf : J X ov C mm (pc + 3) L st) : J X ov (if y ≤ x then B else C) mm pc L (.int y :: .int x :: st) := by
  obtain ⟨p, l, e, R, s, m, args, below, meth, c, D, cy, ad, A, sad, kc, ks, fin, qq⟩ := X
  obtain ⟨hx, hb, hml, hown, hts, hK, hA, hSt, hlk, hfr, hlo, hkc, hks⟩ := hX
  intro res hF ho H locs ls hP hS hl
  refine lv_icmp_ge hx hb hd ht (fun h => ?_) (fun h => ?_)
  · rw [if_pos h] at hF; exact kt res hF ho H locs ls hP hS hl
  · rw [if_neg h] at hF; exact kf res hF ho H locs ls hP hS hl
theorem r_if_gt (hX : Gd X cc own nL fr) {x : Int32} {off : Int} {tgt : Nat} {B C : Option ρ} (hd : decode cc pc = .ok (.ifCond .gt off, 3)) (ht : (pc : Int) + off = (tgt : Int)) (kt : J X ov B mm tgt L st) (kf : J X ov C mm (pc + 3) L st) : J X ov (if 0 < x then B else C) mm pc L (.int x :: st) := by
  obtain ⟨p, l, e, R, s, m, args, below, meth, c, D, cy, ad, A, sad, kc, ks, fin, qq⟩ := X
  obtain ⟨hx, hb, hml, hown, hts, hK, hA, hSt, hlk, hfr, hlo, hkc, hks⟩ := hX
  intro res hF ho H locs ls hP hS hl
  refine lv_if_gt hx hb hd ht (fun h => ?_) (fun h => ?_)
  · rw [if_pos h] at hF; exact kt res hF ho H locs ls hP hS hl
  · rw [if_neg h] at hF; exact kf res hF ho H locs ls hP hS hl
theorem r_icmp_gt (hX : Gd X cc own nL fr) {x y : Int32} {off : Int} {tgt : Nat} {B C : Option ρ} (hd : decode cc pc = .ok (.if_icmp .gt off, 3)) (ht : (pc : Int) + off = (tgt : Int)) (kt : J X ov B mm tgt L st) (kf : J X ov C mm (pc + 3) L st) : J X ov (if y < x then B else C) mm pc L (.int y :: .int x :: st) := by
  obtain ⟨p, l, e, R, s, m, args, below, meth, c, D, cy, ad, A, sad, kc, ks, fin, qq⟩ := X
  obtain ⟨hx, hb, hml, hown, hts, hK, hA, hSt, hlk, hfr, hlo, hkc, hks⟩ := hX
  intro res hF ho H locs ls hP hS hl
  refine lv_icmp_gt hx hb hd ht (fun h => ?_) (fun h => ?_)
  · rw [if_pos h] at hF; exact kt res hF ho H locs ls hP hS hl
  · rw [if_neg h] at hF; exact kf res hF ho H locs ls hP hS hl
theorem r_if_le (hX : Gd X cc own nL fr) {x : Int32} {off : Int} {tgt : Nat} {B C : Option ρ} (hd : decode cc pc = .ok (.ifCond .le off, 3)) (ht : (pc : Int) + off = (tgt : Int)) (kt : J X ov B mm tgt L st) (kf : J X ov C mm (pc + 3) L st) : J X ov (if x ≤ 0 then B else C) mm pc L (.int x :: st) := by
  obtain ⟨p, l, e, R, s, m, args, below, meth, c, D, cy, ad, A, sad, kc, ks, fin, qq⟩ := X
  obtain ⟨hx, hb, hml, hown, hts, hK, hA, hSt, hlk, hfr, hlo, hkc, hks⟩ := hX
  intro res hF ho H locs ls hP hS hl
  refine lv_if_le hx hb hd ht (fun h => ?_) (fun h => ?_)
  · rw [if_pos h] at hF; exact kt res hF ho H locs ls hP hS hl
  · rw [if_neg h] at hF; exact kf res hF ho H locs ls hP hS hl
theorem r_icmp_le (hX : Gd X cc own nL fr) {x y : Int32} {off : Int} {tgt : Nat} {B C : Option ρ} (hd : decode cc pc = .ok (.if_icmp .le off, 3)) (ht : (pc : Int) + off = (tgt : Int)) (kt : J X ov B mm tgt L st) (kf : J X ov C mm (pc + 3) L st) : J X ov (if x ≤ y then B else C) mm pc L (.int y :: .int x :: st) := by
  obtain ⟨p, l, e, R, s, m, args, below, meth, c, D, cy, ad, A, sad, kc, ks, fin, qq⟩ := X
  obtain ⟨hx, hb, hml, hown, hts, hK, hA, hSt, hlk, hfr, hlo, hkc, hks⟩ := hX
  intro res hF ho H locs ls hP hS hl
  refine lv_icmp_le hx hb hd ht (fun h => ?_) (fun h => ?_)
  · rw [if_pos h] at hF; exact kt res hF ho H locs ls hP hS hl
  · rw [if_neg h] at hF; exact kf res hF ho H locs ls hP hS hl
theorem r_goto (hX : Gd X cc own nL fr) {off : Int} {tgt : Nat} (hd : decode cc pc = .ok (.goto off, 3)) (ht : (pc : Int) + off = (tgt : Int)) (k : J X ov F mm tgt L st) : J X ov F mm pc L st := by
  obtain ⟨p, l, e, R, s, m, args, below, meth, c, D, cy, ad, A, sad, kc, ks, fin, qq⟩ := X
  obtain ⟨hx, hb, hml, hown, hts, hK, hA, hSt, hlk, hfr, hlo, hkc, hks⟩ := hX
  intro res hF ho H locs ls hP hS hl
  exact lv_goto hx hb hd ht (k res hF ho H locs ls hP hS hl)
theorem r_swIn (hX : Gd X cc own nL fr) {dflt lo hi : Int} {offs : Array Int} {len : Nat} {x : Int32} {off : Int} {tgt : Nat} (hd : decode cc pc = .ok (.tableswitch dflt lo hi offs, len)) (h1 : ¬ x.toInt < lo) (h2 : ¬ hi < x.toInt) (h3 : offs[(x.toInt - lo).toNat]? = some off) (ht : (pc : Int) + off = (tgt : Int)) (k : J X ov F mm tgt L st) : J X ov F mm pc L (.int x :: st) := by
  obtain ⟨p, l, e, R, s, m, args, below, meth, c, D, cy, ad, A, sad, kc, ks, fin, qq⟩ := X
  obtain ⟨hx, hb, hml, hown, hts, hK, hA, hSt, hlk, hfr, hlo, hkc, hks⟩ := hX
  intro res hF ho H locs ls hP hS hl
  exact lv_tableIn hx hb hd h1 h2 h3 ht (k res hF ho H locs ls hP hS hl)
theorem r_swOut (hX : Gd X cc own nL fr) {dflt lo hi : Int} {offs : Array Int} {len : Nat} {x : Int32} {tgt : Nat} (hd : decode cc pc = .ok (.tableswitch dflt lo hi offs, len)) (h : x.toInt < lo ∨ hi < x.toInt) (ht : (pc : Int) + dflt = (tgt : Int)) (k : J X ov F mm tgt L st) : J X ov F mm pc L (.int x :: st) := by
  obtain ⟨p, l, e, R, s, m, args, below, meth, c, D, cy, ad, A, sad, kc, ks, fin, qq⟩ := X
  obtain ⟨hx, hb, hml, hown, hts, hK, hA, hSt, hlk, hfr, hlo, hkc, hks⟩ := hX
  intro res hF ho H locs ls hP hS hl
  exact lv_tableOut hx hb hd h ht (k res hF ho H locs ls hP hS hl)
/-- a class of the system -/
def KC (ci : Nat) (C : String) (T : u_T) (N : Nat) (ty : Nat → FieldType) : Prop := vwCl[ci]? = some (C, T, N) ∧ (∀ w ∈ u_ws C T N, w ∈ gt) ∧ (∀ k, k < N → parseFieldDescriptor (T k).2.2.1 = some (ty k)) ∧ (∀ a, a < N → ∀ b, b < N → a ≠ b → (T a).2.1 ≠ (T b).2.1) ∧ N = nf ci ∧ ci < 9
/-- the entry idx of own's pool names slot j of class ci, of type t -/
def FP (own : String) (idx ci j t : Nat) (tv : FieldType) (fn : Bool) : Prop := ∃ (C : String) (T : u_T) (N : Nat) (ty : Nat → FieldType), KC ci C T N ty ∧ j < N ∧ ft ci j = t ∧ ty j = tv ∧ (T j).2.2.2 = fn ∧ Cond.fieldLink own idx C (T j).2.1 (T j).2.2.1 ∈ gt
theorem TX_own : ∀ q ∈ vwCl, ∀ j, j < q.2.2 → (q.2.1 j).1 = q.1 := by decide +kernel
theorem u_T_own {ci : Nat} {C : String} {T : u_T} {N : Nat} (h : vwCl[ci]? = some (C, T, N)) (j : Nat) (hj : j < N) : (T j).1 = C := TX_own _ (List.mem_of_getElem? h) j hj
theorem r_getI (hX : Gd X cc own nL fr) {idx ci j t o : Nat} {tv : FieldType} {fn : Bool}  (hd : decode cc pc = .ok (.getfield idx, 3)) (hf : FP own idx ci j t tv fn) (h9 : kd o = ci) (ht : t < 2) (k : J X ov F mm (pc + 3) L (.int (mm.1 o j) :: st)) : J X ov F mm pc L (rX X o :: st) := by
  obtain ⟨p, l, e, R, s, m, args, below, meth, c, D, cy, ad, A, sad, kc, ks, fin, qq⟩ := X
  obtain ⟨hx, hb, hml, hown, hts, hK, hA, hSt, hlk, hfr, hlo, hkc, hks⟩ := hX
  intro res hF ho H locs ls hP hS hl
  obtain ⟨C, T, N, ty, ⟨k1, k2, k3, k4, k5, k6⟩, f1, f2, f3, f4, f5⟩ := hf
  subst h9
  obtain ⟨q, hq1, hq2⟩ := ws_get (cy := cy) (ad := ad) (m := mm) (o := o) (by omega)
  rw [cel_o k6] at hq2
  have hv := fs_at (ad := ad) (m := mm) (o := o) (j := j) (by rw [← k5]; exact f1)
  unfold sv at hv
  rw [f2, if_pos ht] at hv
  exact va_get hx hb hts k2 hown hK hP q hq2 k1 j f1 (hts _ f5) (fun _ h => by rw [(u_T_own k1 j f1)] at h; exact h) hv hd (k res hF ho H locs ls hP hS hl)
theorem r_getL (hX : Gd X cc own nL fr) {idx ci j t o : Nat} {tv : FieldType} {fn : Bool}  (hd : decode cc pc = .ok (.getfield idx, 3)) (hf : FP own idx ci j t tv fn) (h9 : kd o = ci) (ht : t = 2) (k : J X ov F mm (pc + 3) L (.long (mm.2 o j) :: st)) : J X ov F mm pc L (rX X o :: st) := by
  obtain ⟨p, l, e, R, s, m, args, below, meth, c, D, cy, ad, A, sad, kc, ks, fin, qq⟩ := X
  obtain ⟨hx, hb, hml, hown, hts, hK, hA, hSt, hlk, hfr, hlo, hkc, hks⟩ := hX
  intro res hF ho H locs ls hP hS hl
  obtain ⟨C, T, N, ty, ⟨k1, k2, k3, k4, k5, k6⟩, f1, f2, f3, f4, f5⟩ := hf
  subst h9
  obtain ⟨q, hq1, hq2⟩ := ws_get (cy := cy) (ad := ad) (m := mm) (o := o) (by omega)
  rw [cel_o k6] at hq2
  have hv := fs_at (ad := ad) (m := mm) (o := o) (j := j) (by rw [← k5]; exact f1)
  unfold sv at hv
  rw [f2, if_neg (by omega), if_pos ht] at hv
  exact va_get hx hb hts k2 hown hK hP q hq2 k1 j f1 (hts _ f5) (fun _ h => by rw [(u_T_own k1 j f1)] at h; exact h) hv hd (k res hF ho H locs ls hP hS hl)
theorem r_getR (hX : Gd X cc own nL fr) {idx ci j t o : Nat} {tv : FieldType} {fn : Bool} {o2 : Nat} (hd : decode cc pc = .ok (.getfield idx, 3)) (hf : FP own idx ci j t tv fn) (h9 : kd o = ci) (ht : t = 3) (hr : rf o j = some o2) (k : J X ov F mm (pc + 3) L (rX X o2 :: st)) : J X ov F mm pc L (rX X o :: st) := by
  obtain ⟨p, l, e, R, s, m, args, below, meth, c, D, cy, ad, A, sad, kc, ks, fin, qq⟩ := X
  obtain ⟨hx, hb, hml, hown, hts, hK, hA, hSt, hlk, hfr, hlo, hkc, hks⟩ := hX
  intro res hF ho H locs ls hP hS hl
  obtain ⟨C, T, N, ty, ⟨k1, k2, k3, k4, k5, k6⟩, f1, f2, f3, f4, f5⟩ := hf
  subst h9
  obtain ⟨q, hq1, hq2⟩ := ws_get (cy := cy) (ad := ad) (m := mm) (o := o) (by omega)
  rw [cel_o k6] at hq2
  have hv := fs_at (ad := ad) (m := mm) (o := o) (j := j) (by rw [← k5]; exact f1)
  unfold sv at hv
  rw [f2, if_neg (by omega), if_neg (by omega), hr] at hv
  exact va_get hx hb hts k2 hown hK hP q hq2 k1 j f1 (hts _ f5) (fun _ h => by rw [(u_T_own k1 j f1)] at h; exact h) hv hd (k res hF ho H locs ls hP hS hl)
theorem r_putI (hX : Gd X cc own nL fr) {idx ci j o : Nat} {v : Int32} {K : Me → Option ρ} (hd : decode cc pc = .ok (.putfield idx, 3)) (hf : FP own idx ci j 0 .int false) (h9 : kd o = ci) (k : ∀ m', J X ov (K m') m' (pc + 3) L st) : J X ov (bd (si mm o j v) K) mm pc L (.int v :: rX X o :: st) := by
  obtain ⟨p, l, e, R, s, m, args, below, meth, c, D, cy, ad, A, sad, kc, ks, fin, qq⟩ := X
  obtain ⟨hx, hb, hml, hown, hts, hK, hA, hSt, hlk, hfr, hlo, hkc, hks⟩ := hX
  intro res hF ho H locs ls hP hS hl
  obtain ⟨C, T, N, ty, ⟨k1, k2, k3, k4, k5, k6⟩, f1, f2, f3, f4, f5⟩ := hf
  subst h9
  obtain ⟨q, hq1, hq2⟩ := ws_get (cy := cy) (ad := ad) (m := mm) (o := o) (by omega)
  rw [cel_o k6] at hq2
  refine va_put hx hb hts k2 ty k3 k4 hown hK hP (hA.D cy mm) hS q hq2 k1 j f1 (hts _ f5) (fun _ h => by rw [(u_T_own k1 j f1)] at h; exact h) f4 (ty := .int) (v := .int v) (by rw [k3 j f1, f3]) rfl rfl (by unfold fsOf; rw [List.length_map, List.length_range, ← k5]; exact f1) hd (fun H1 locs1 hP1 _ hS1 => ?_)
  rw [ws_si hq1 k6 (by rw [f2]; decide)] at hP1
  exact k _ res hF ho H1 locs1 ls hP1 hS1 hl
theorem r_putZ (hX : Gd X cc own nL fr) {idx ci j o : Nat} {v : Int32} {K : Me → Option ρ} (hd : decode cc pc = .ok (.putfield idx, 3)) (hf : FP own idx ci j 1 .boolean false) (h9 : kd o = ci) (k : ∀ m', J X ov (K m') m' (pc + 3) L st) : J X ov (pz mm o j v K) mm pc L (.int v :: rX X o :: st) := by
  obtain ⟨p, l, e, R, s, m, args, below, meth, c, D, cy, ad, A, sad, kc, ks, fin, qq⟩ := X
  obtain ⟨hx, hb, hml, hown, hts, hK, hA, hSt, hlk, hfr, hlo, hkc, hks⟩ := hX
  intro res hF ho H locs ls hP hS hl
  obtain ⟨C, T, N, ty, ⟨k1, k2, k3, k4, k5, k6⟩, f1, f2, f3, f4, f5⟩ := hf
  subst h9
  obtain ⟨q, hq1, hq2⟩ := ws_get (cy := cy) (ad := ad) (m := mm) (o := o) (by omega)
  rw [cel_o k6] at hq2
  unfold pz at hF
  by_cases hz : v = 0 ∨ v = 1
  case neg => rw [if_neg hz] at hF; cases hF
  rw [if_pos hz] at hF
  refine va_put hx hb hts k2 ty k3 k4 hown hK hP (hA.D cy mm) hS q hq2 k1 j f1 (hts _ f5) (fun _ h => by rw [(u_T_own k1 j f1)] at h; exact h) f4 (ty := .boolean) (v := .int v) (by rw [k3 j f1, f3]) (by rcases hz with rfl | rfl <;> rfl) (by rcases hz with rfl | rfl <;> rfl) (by unfold fsOf; rw [List.length_map, List.length_range, ← k5]; exact f1) hd (fun H1 locs1 hP1 _ hS1 => ?_)
  rw [ws_si hq1 k6 (by rw [f2]; decide)] at hP1
  exact k _ res hF ho H1 locs1 ls hP1 hS1 hl
theorem r_putL (hX : Gd X cc own nL fr) {idx ci j o : Nat} {v : Int64} {K : Me → Option ρ} (hd : decode cc pc = .ok (.putfield idx, 3)) (hf : FP own idx ci j 2 .long false) (h9 : kd o = ci) (k : ∀ m', J X ov (K m') m' (pc + 3) L st) : J X ov (bd (sl mm o j v) K) mm pc L (.long v :: rX X o :: st) := by
  obtain ⟨p, l, e, R, s, m, args, below, meth, c, D, cy, ad, A, sad, kc, ks, fin, qq⟩ := X
  obtain ⟨hx, hb, hml, hown, hts, hK, hA, hSt, hlk, hfr, hlo, hkc, hks⟩ := hX
  intro res hF ho H locs ls hP hS hl
  obtain ⟨C, T, N, ty, ⟨k1, k2, k3, k4, k5, k6⟩, f1, f2, f3, f4, f5⟩ := hf
  subst h9
  obtain ⟨q, hq1, hq2⟩ := ws_get (cy := cy) (ad := ad) (m := mm) (o := o) (by omega)
  rw [cel_o k6] at hq2
  refine va_put hx hb hts k2 ty k3 k4 hown hK hP (hA.D cy mm) hS q hq2 k1 j f1 (hts _ f5) (fun _ h => by rw [(u_T_own k1 j f1)] at h; exact h) f4 (ty := .long) (v := .long v) (by rw [k3 j f1, f3]) rfl rfl (by unfold fsOf; rw [List.length_map, List.length_range, ← k5]; exact f1) hd (fun H1 locs1 hP1 _ hS1 => ?_)
  rw [ws_sl hq1 k6 (by rw [f2])] at hP1
  exact k _ res hF ho H1 locs1 ls hP1 hS1 hl
theorem r_iald (hX : Gd X cc own nL fr) {o : Nat} {i : Int32} {K : Int32 → Option ρ} (hd : decode cc pc = .ok (.iaload, 1)) (h9 : kd o = 20) (k : ∀ v, J X ov (K v) mm (pc + 1) L (.int v :: st)) : J X ov (rd (ln o) i (mm.1 o) K) mm pc L (.int i :: rX X o :: st) := by
  obtain ⟨p, l, e, R, s, m, args, below, meth, c, D, cy, ad, A, sad, kc, ks, fin, qq⟩ := X
  obtain ⟨hx, hb, hml, hown, hts, hK, hA, hSt, hlk, hfr, hlo, hkc, hks⟩ := hX
  intro res hF ho H locs ls hP hS hl
  unfold rd at hF
  by_cases hi : i < 0 ∨ ln o ≤ i.toNatClampNeg
  case pos => rw [if_pos hi] at hF; cases hF
  rw [if_neg hi] at hF
  obtain ⟨q, hq1, hq2⟩ := ws_get (cy := cy) (ad := ad) (m := mm) (o := o) (by omega)
  rw [cel_i h9] at hq2
  exact va_iald hx hb hK hP q 0 hq2 rfl hi hd (k _ res hF ho H locs ls hP hS hl)
theorem r_lald (hX : Gd X cc own nL fr) {o : Nat} {i : Int32} {K : Int64 → Option ρ} (hd : decode cc pc = .ok (.laload, 1)) (h9 : kd o = 21) (k : ∀ v, J X ov (K v) mm (pc + 1) L (.long v :: st)) : J X ov (rd (ln o) i (mm.2 o) K) mm pc L (.int i :: rX X o :: st) := by
  obtain ⟨p, l, e, R, s, m, args, below, meth, c, D, cy, ad, A, sad, kc, ks, fin, qq⟩ := X
  obtain ⟨hx, hb, hml, hown, hts, hK, hA, hSt, hlk, hfr, hlo, hkc, hks⟩ := hX
  intro res hF ho H locs ls hP hS hl
  unfold rd at hF
  by_cases hi : i < 0 ∨ ln o ≤ i.toNatClampNeg
  case pos => rw [if_pos hi] at hF; cases hF
  rw [if_neg hi] at hF
  obtain ⟨q, hq1, hq2⟩ := ws_get (cy := cy) (ad := ad) (m := mm) (o := o) (by omega)
  rw [cel_l h9] at hq2
  exact va_lald hx hb hK hP q 1 hq2 rfl hi hd (k _ res hF ho H locs ls hP hS hl)
theorem r_zald (hX : Gd X cc own nL fr) {o : Nat} {i : Int32} {K : Int32 → Option ρ} (hd : decode cc pc = .ok (.baload, 1)) (h9 : kd o = 22) (k : ∀ v, J X ov (K v) mm (pc + 1) L (.int v :: st)) : J X ov (rd (ln o) i (mm.1 o) K) mm pc L (.int i :: rX X o :: st) := by
  obtain ⟨p, l, e, R, s, m, args, below, meth, c, D, cy, ad, A, sad, kc, ks, fin, qq⟩ := X
  obtain ⟨hx, hb, hml, hown, hts, hK, hA, hSt, hlk, hfr, hlo, hkc, hks⟩ := hX
  intro res hF ho H locs ls hP hS hl
  unfold rd at hF
  by_cases hi : i < 0 ∨ ln o ≤ i.toNatClampNeg
  case pos => rw [if_pos hi] at hF; cases hF
  rw [if_neg hi] at hF
  obtain ⟨q, hq1, hq2⟩ := ws_get (cy := cy) (ad := ad) (m := mm) (o := o) (by omega)
  rw [cel_z h9] at hq2
  exact va_zald hx hb hK hP q 2 hq2 rfl hi hd (k _ res hF ho H locs ls hP hS hl)
theorem r_iast (hX : Gd X cc own nL fr) {o : Nat} {i : Int32} {v : Int32} {K : Me → Option ρ} (hd : decode cc pc = .ok (.iastore, 1)) (h9 : kd o = 20) (k : ∀ m', J X ov (K m') m' (pc + 1) L st) : J X ov (wi mm o (ln o) i v K) mm pc L (.int v :: .int i :: rX X o :: st) := by
  obtain ⟨p, l, e, R, s, m, args, below, meth, c, D, cy, ad, A, sad, kc, ks, fin, qq⟩ := X
  obtain ⟨hx, hb, hml, hown, hts, hK, hA, hSt, hlk, hfr, hlo, hkc, hks⟩ := hX
  intro res hF ho H locs ls hP hS hl
  unfold wi at hF
  by_cases hi : i < 0 ∨ ln o ≤ i.toNatClampNeg
  case pos => rw [if_pos hi] at hF; cases hF
  rw [if_neg hi] at hF
  obtain ⟨q, hq1, hq2⟩ := ws_get (cy := cy) (ad := ad) (m := mm) (o := o) (by omega)
  rw [cel_i h9] at hq2
  refine va_iast hx hb hK hP (hA.D cy mm) hS q 0 hq2 rfl hi hd (fun H1 locs1 hP1 _ hS1 => ?_)
  rw [ws_set (m := mm) (m' := si mm o i.toNatClampNeg v) hq1 (by rw [cel_i h9, si_upd]) (fun _ h => cel_eq (si_ne h) rfl)] at hP1
  exact k _ res hF ho H1 locs1 ls hP1 hS1 hl
theorem r_last (hX : Gd X cc own nL fr) {o : Nat} {i : Int32} {v : Int64} {K : Me → Option ρ} (hd : decode cc pc = .ok (.lastore, 1)) (h9 : kd o = 21) (k : ∀ m', J X ov (K m') m' (pc + 1) L st) : J X ov (wl mm o (ln o) i v K) mm pc L (.long v :: .int i :: rX X o :: st) := by
  obtain ⟨p, l, e, R, s, m, args, below, meth, c, D, cy, ad, A, sad, kc, ks, fin, qq⟩ := X
  obtain ⟨hx, hb, hml, hown, hts, hK, hA, hSt, hlk, hfr, hlo, hkc, hks⟩ := hX
  intro res hF ho H locs ls hP hS hl
  unfold wl at hF
  by_cases hi : i < 0 ∨ ln o ≤ i.toNatClampNeg
  case pos => rw [if_pos hi] at hF; cases hF
  rw [if_neg hi] at hF
  obtain ⟨q, hq1, hq2⟩ := ws_get (cy := cy) (ad := ad) (m := mm) (o := o) (by omega)
  rw [cel_l h9] at hq2
  refine va_last hx hb hK hP (hA.D cy mm) hS q 1 hq2 rfl hi hd (fun H1 locs1 hP1 _ hS1 => ?_)
  rw [ws_set (m := mm) (m' := sl mm o i.toNatClampNeg v) hq1 (by rw [cel_l h9, sl_upd]) (fun _ h => cel_eq rfl (sl_ne h))] at hP1
  exact k _ res hF ho H1 locs1 ls hP1 hS1 hl
theorem r_zast (hX : Gd X cc own nL fr) {o : Nat} {i : Int32} {v : Int32} {K : Me → Option ρ} (hd : decode cc pc = .ok (.bastore, 1)) (h9 : kd o = 22) (k : ∀ m', J X ov (K m') m' (pc + 1) L st) : J X ov (wz mm o (ln o) i v K) mm pc L (.int v :: .int i :: rX X o :: st) := by
  obtain ⟨p, l, e, R, s, m, args, below, meth, c, D, cy, ad, A, sad, kc, ks, fin, qq⟩ := X
  obtain ⟨hx, hb, hml, hown, hts, hK, hA, hSt, hlk, hfr, hlo, hkc, hks⟩ := hX
  intro res hF ho H locs ls hP hS hl
  unfold wz at hF
  by_cases hi : i < 0 ∨ ln o ≤ i.toNatClampNeg
  case pos => rw [if_pos hi] at hF; cases hF
  rw [if_neg hi] at hF
  by_cases hz : v = 0 ∨ v = 1
  case neg => rw [if_neg hz] at hF; cases hF
  rw [if_pos hz] at hF
  obtain ⟨q, hq1, hq2⟩ := ws_get (cy := cy) (ad := ad) (m := mm) (o := o) (by omega)
  rw [cel_z h9] at hq2
  refine va_zast hx hb hK hP (hA.D cy mm) hS q 2 hq2 rfl hi hd (fun H1 locs1 hP1 _ hS1 => ?_)
  rw [ws_set (m := mm) (m' := si mm o i.toNatClampNeg v) hq1 (by rw [cel_z h9, si_upd, show vp_nar .boolean v = v by rcases hz with rfl | rfl <;> rfl]) (fun _ h => cel_eq (si_ne h) rfl)] at hP1
  exact k _ res hF ho H1 locs1 ls hP1 hS1 hl
theorem r_alen (hX : Gd X cc own nL fr) {o : Nat} (hd : decode cc pc = .ok (.arraylength, 1)) (h9 : kd o = 20) (k : J X ov F mm (pc + 1) L (.int (Int32.ofNat (ln o)) :: st)) : J X ov F mm pc L (rX X o :: st) := by
  obtain ⟨p, l, e, R, s, m, args, below, meth, c, D, cy, ad, A, sad, kc, ks, fin, qq⟩ := X
  obtain ⟨hx, hb, hml, hown, hts, hK, hA, hSt, hlk, hfr, hlo, hkc, hks⟩ := hX
  intro res hF ho H locs ls hP hS hl
  obtain ⟨q, hq1, hq2⟩ := ws_get (cy := cy) (ad := ad) (m := mm) (o := o) (by omega)
  rw [cel_i h9] at hq2
  exact va_alen hx hb hK hP q 0 hq2 rfl rfl hd (k res hF ho H locs ls hP hS hl)
theorem r_gets (hX : Gd X cc own nL fr) {idx : Nat} (n : Nat) (hn : n < 4) (hd : decode cc pc = .ok (.getstatic idx, 3)) (hw : nsw n = Cond.fieldLinkNest own idx "NameChart" (stn n) "[I" "NameChart") (k : J X ov F mm (pc + 3) L (.ref (xsa X n) :: st)) : J X ov F mm pc L st := by
  obtain ⟨p, l, e, R, s, m, args, below, meth, c, D, cy, ad, A, sad, kc, ks, fin, qq⟩ := X
  obtain ⟨hx, hb, hml, hown, hts, hK, hA, hSt, hlk, hfr, hlo, hkc, hks⟩ := hX
  intro res hF ho H locs ls hP hS hl
  exact va_getsN hx hb (hSt n hn).1 hS hown (va_Nw.use rfl (hw ▸ (hSt n hn).2.2)) (fun _ h => h) hd (k res hF ho H locs ls hP hS hl)
theorem r_sald (hX : Gd X cc own nL fr) {i : Int32} {K : Int32 → Option ρ} (n : Nat) (hn : n < 4) (hd : decode cc pc = .ok (.iaload, 1)) (k : ∀ v, J X ov (K v) mm (pc + 1) L (.int v :: st)) : J X ov (rd (stl n) i (stt n) K) mm pc L (.int i :: .ref (xsa X n) :: st) := by
  obtain ⟨p, l, e, R, s, m, args, below, meth, c, D, cy, ad, A, sad, kc, ks, fin, qq⟩ := X
  obtain ⟨hx, hb, hml, hown, hts, hK, hA, hSt, hlk, hfr, hlo, hkc, hks⟩ := hX
  intro res hF ho H locs ls hP hS hl
  unfold rd at hF
  by_cases hi : i < 0 ∨ stl n ≤ i.toNatClampNeg
  case pos => rw [if_pos hi] at hF; cases hF
  rw [if_neg hi] at hF
  exact va_ti hx hb (hSt n hn).2.1 hS hi rfl hd (k _ res hF ho H locs ls hP hS hl)
theorem r_iretI (hX : Gd X cc own nL fr) (hE : Ge X (some .int)) {v : Int32} (hd : decode cc pc = .ok (.ireturn, 1)) : J X oI (some (v, mm)) mm pc L [.int v] := by
  obtain ⟨p, l, e, R, s, m, args, below, meth, c, D, cy, ad, A, sad, kc, ks, fin, qq⟩ := X
  obtain ⟨hx, hb, hml, hown, hts, hK, hA, hSt, hlk, hfr, hlo, hkc, hks⟩ := hX
  intro res hF ho H locs ls hP hS hl
  obtain ⟨hr, hq⟩ := hE
  cases hF
  subst ho
  rw [hq]
  refine W.iret hx hb hr (fun t ht hW => ?_) hS.2.2 hd hlk
  exact ⟨rfl, by rw [ht]; exact hP, va_K.moved hW.alike hK, hS.F ht⟩
theorem r_iretP (hX : Gd X cc own nL fr) (hE : Ge X (some .int)) {v : Int32} (hd : decode cc pc = .ok (.ireturn, 1)) : J X (oP mm) (some v) mm pc L [.int v] := by
  obtain ⟨p, l, e, R, s, m, args, below, meth, c, D, cy, ad, A, sad, kc, ks, fin, qq⟩ := X
  obtain ⟨hx, hb, hml, hown, hts, hK, hA, hSt, hlk, hfr, hlo, hkc, hks⟩ := hX
  intro res hF ho H locs ls hP hS hl
  obtain ⟨hr, hq⟩ := hE
  cases hF
  subst ho
  rw [hq]
  refine W.iret hx hb hr (fun t ht hW => ?_) hS.2.2 hd hlk
  exact ⟨rfl, by rw [ht]; exact hP, va_K.moved hW.alike hK, hS.F ht⟩
theorem r_zretI (hX : Gd X cc own nL fr) (hE : Ge X (some .boolean)) {v : Int32} (hd : decode cc pc = .ok (.ireturn, 1)) : J X oI (zg v (v, mm)) mm pc L [.int v] := by
  obtain ⟨p, l, e, R, s, m, args, below, meth, c, D, cy, ad, A, sad, kc, ks, fin, qq⟩ := X
  obtain ⟨hx, hb, hml, hown, hts, hK, hA, hSt, hlk, hfr, hlo, hkc, hks⟩ := hX
  intro res hF ho H locs ls hP hS hl
  obtain ⟨hr, hq⟩ := hE
  unfold zg at hF
  by_cases hz : v = 0 ∨ v = 1
  case neg => rw [if_neg hz] at hF; cases hF
  rw [if_pos hz] at hF
  cases hF
  subst ho
  rw [hq]
  refine W.zret hx hb hr (by rcases hz with rfl | rfl <;> rfl) (fun t ht hW => ?_) hS.2.2 hd hlk
  exact ⟨rfl, by rw [ht]; exact hP, va_K.moved hW.alike hK, hS.F ht⟩
theorem r_zretP (hX : Gd X cc own nL fr) (hE : Ge X (some .boolean)) {v : Int32} (hd : decode cc pc = .ok (.ireturn, 1)) : J X (oP mm) (zg v v) mm pc L [.int v] := by
  obtain ⟨p, l, e, R, s, m, args, below, meth, c, D, cy, ad, A, sad, kc, ks, fin, qq⟩ := X
  obtain ⟨hx, hb, hml, hown, hts, hK, hA, hSt, hlk, hfr, hlo, hkc, hks⟩ := hX
  intro res hF ho H locs ls hP hS hl
  obtain ⟨hr, hq⟩ := hE
  unfold zg at hF
  by_cases hz : v = 0 ∨ v = 1
  case neg => rw [if_neg hz] at hF; cases hF
  rw [if_pos hz] at hF
  cases hF
  subst ho
  rw [hq]
  refine W.zret hx hb hr (by rcases hz with rfl | rfl <;> rfl) (fun t ht hW => ?_) hS.2.2 hd hlk
  exact ⟨rfl, by rw [ht]; exact hP, va_K.moved hW.alike hK, hS.F ht⟩
theorem r_vret (hX : Gd X cc own nL fr) (hE : Ge X none) (hd : decode cc pc = .ok (.return_, 1)) : J X oV (some mm) mm pc L [] := by
  obtain ⟨p, l, e, R, s, m, args, below, meth, c, D, cy, ad, A, sad, kc, ks, fin, qq⟩ := X
  obtain ⟨hx, hb, hml, hown, hts, hK, hA, hSt, hlk, hfr, hlo, hkc, hks⟩ := hX
  intro res hF ho H locs ls hP hS hl
  obtain ⟨hr, hq⟩ := hE
  cases hF
  subst ho
  rw [hq]
  refine W.vret hx hb hr (fun t ht hW => ?_) hS.2.2 hd hlk
  exact ⟨rfl, by rw [ht]; exact hP, va_K.moved hW.alike hK, hS.F ht⟩
theorem r_lretP (hX : Gd X cc own nL fr) (hE : Ge X (some .long)) {v : Int64} (hd : decode cc pc = .ok (.lreturn, 1)) : J X (oL mm) (some v) mm pc L [.long v] := by
  obtain ⟨p, l, e, R, s, m, args, below, meth, c, D, cy, ad, A, sad, kc, ks, fin, qq⟩ := X
  obtain ⟨hx, hb, hml, hown, hts, hK, hA, hSt, hlk, hfr, hlo, hkc, hks⟩ := hX
  intro res hF ho H locs ls hP hS hl
  obtain ⟨hr, hq⟩ := hE
  cases hF
  subst ho
  rw [hq]
  refine W.lret hx hb hr (fun t ht hW => ?_) hS.2.2 hd hlk
  exact ⟨rfl, by rw [ht]; exact hP, va_K.moved hW.alike hK, hS.F ht⟩
theorem r_aretR (hX : Gd X cc own nL fr) {C : String} (hE : Ge X (some (.object C))) {o : Nat} (hd : decode cc pc = .ok (.areturn, 1)) : J X (oR (xad X) mm) (some o) mm pc L [rX X o] := by
  obtain ⟨p, l, e, R, s, m, args, below, meth, c, D, cy, ad, A, sad, kc, ks, fin, qq⟩ := X
  obtain ⟨hx, hb, hml, hown, hts, hK, hA, hSt, hlk, hfr, hlo, hkc, hks⟩ := hX
  intro res hF ho H locs ls hP hS hl
  obtain ⟨hr, hq⟩ := hE
  cases hF
  have ho : (some (Value.ref (ad o)), mm) = fin := ho
  subst ho
  rw [hq]
  refine W.aret hx hb hr (Or.inl ⟨_, rfl⟩) (Or.inr ⟨_, rfl⟩) (fun t ht hW => ?_) hS.2.2 hd hlk
  exact ⟨rfl, by rw [ht]; exact hP, va_K.moved hW.alike hK, hS.F ht⟩
end ROWS
