/-! CONTRACTS of the methods that make nothing: the arguments av, the memory m before; fin the answer and the memory behind -/
def rmOf (fr : Nat) : Room := { frames := fr, cells := 0, slots := 0, locals := 64 * fr }
def Pw (D : va_G) (cy : Nat → ClassId) (ad : Nat → Nat) (A : Nat → Prop) (sad : Nat → Nat) (m : Me) (U : State) : Prop := va_P D vwCl (wsW cy ad m) U.heap ∧ va_K D vwCl (tys cy) U ∧ Ap A ad ∧ Sts A sad U U.heap
def Ct (y : MethodName) (cc : ByteArray) (nL : Nat) (ret : Option FieldType) (fr : Nat) (av : (Nat → Nat) → List Value) (m : Me) (fin : (Nat → Nat) → Option Value × Me) : Prop :=
  ∀ (l : Launch) (D : va_G) (cy : Nat → ClassId) (ad : Nat → Nat) (A : Nat → Prop) (sad : Nat → Nat), Met l y (Cond.code y cc nL ret :: gt) (rmOf fr) (va_Pc (av ad) (Pw D cy ad A sad m)) (Qf D cy ad A (fin ad)) 0 0 A
/-- a contract out of a walk of the method's body -/
theorem mk_ct {ρ : Type} {y : MethodName} {cc : ByteArray} {nL : Nat} {ret : Option FieldType} {fr : Nat} {av : (Nat → Nat) → List Value} {m : Me} {fin : (Nat → Nat) → Option Value × Me} {F : Option ρ} (ov : (Nat → Nat) → ρ → Option Value × Me) (res : ρ) (hF : F = some res) (hov : ∀ ad, ov ad res = fin ad) (hy : plainName y.cls = true) (hlen : ∀ ad, (lg_sl (av ad)).length ≤ nL)
    (body : ∀ X : Cx, Gd X cc y.cls nL fr → Ge X ret → J X (ov (xad X)) F m 0 (lv_args 0 (av (xad X))) []) : Ct y cc nL ret fr av m fin := by
  intro l D cy ad A sad
  refine Met.ofW (cc := cc) (maxL := nL) (ret := ret) hy rfl ?_
  intro p e s mt args below meth c s₁ B hml hv
  obtain ⟨rfl, hP, hK, hA, hSt⟩ := hv
  have hts := atoms_spec (ws := Cond.code y cc nL ret :: gt) B.pre
  have hown : s.vm.findClass y.cls = some mt.cls := findClass_of_methodNamed B.named
  have hl := lv_entry (av ad) (n := nL) (hlen ad)
  rw [lg_entry_eq]
  have h := body (p, l, e, rmOf fr, s, mt, (av ad).toArray, below, meth, c, D, cy, ad, A, sad, 0, 0, fin ad, MQ below (Qf D cy ad A (fin ad)) (av ad).toArray s 0 0 A)
    ⟨B.exec, B.bytes, hml, hown, fun w hw => hts w (List.mem_cons_of_mem _ hw), hK, hA, hSt, B.notSynchronized, Nat.le_refl _, Nat.le_refl _, Nat.le_refl _, Nat.le_refl _⟩ ⟨B.returns, rfl⟩
  exact h res hF (hov ad) s.heap [] _ hP va_S.rf (by rw [hml]; exact hl)
/-- what the tables say of a method -/
def MI (y : MethodName) (cc : ByteArray) (nL : Nat) (ret : Option FieldType) (n : Nat) : Prop := Cond.code y cc nL ret ∈ gt ∧ Cond.initialized y.cls ∈ gt ∧ (y.cls ≠ "java/lang/invoke/MethodHandle" ∧ y.cls ≠ "java/lang/invoke/VarHandle" ∧ (parseMethodDescriptor y.desc).map (fun d => d.parameters.length) = some n) ∧ nL ≤ 45
def MV (y : MethodName) (ci : Nat) : Prop := Cond.instanceMethod y ∈ gt ∧ Cond.selects y.cls y y ∈ gt ∧ ∃ T N, vwCl[ci]? = some (y.cls, T, N)
theorem Pw.blind {D : va_G} {cy : Nat → ClassId} {ad : Nat → Nat} {A : Nat → Prop} {sad : Nat → Nat} {m : Me} {av : List Value} : FrameBlind (va_Pc av (Pw D cy ad A sad m)) := by
  intro a U g mk h
  obtain ⟨h1, h2, h3, h4, h5⟩ := h
  exact ⟨h1, h2, va_K.moved (u := U) (U := U.calling g mk a) (Vm.Alike.refl U.vm) h3, h4, fun k hk => ⟨(h5 k hk).1.moved (Vm.Alike.refl U.vm), (h5 k hk).2.1.moved (Vm.Alike.refl U.vm), va_Nw.same (u := U) (U := U.calling g mk a) (by rcases (show k = 0 ∨ k = 1 ∨ k = 2 ∨ k = 3 by omega) with rfl | rfl | rfl | rfl <;> rfl) rfl (h5 k hk).2.2⟩⟩
section CALLS
variable {p : Program} {l : Launch} {e : Env} {R : Room} {s : State} {m : MethodId} {args : Array Value} {below : List Frame} {meth : Method} {c : Code} {H : Heap} {locs : List Loc} {cells slots : Nat} {Q : State → Prop}
theorem call_any {pc : Nat} {ls : Array Slot} {rest st0 : List Value} {a : Array Value} {D : va_G} {cy : Nat → ClassId} {ad : Nat → Nat} {A : Nat → Prop} {fin : Option Value × Me} (hr : va_Run p l e R s m args below meth c H locs cells slots 0 0 (F0 m pc ls st0) rest (Qf D cy ad A fin a) A) (hS : va_S A s.heap H locs)
    (kk : ∀ (H1 : Heap) (locs1 : List Loc), va_P D vwCl (wsW cy ad fin.2) H1 → va_S A s.heap H1 locs1 → W p l e R s m args below meth c H1 locs1 cells slots Q (F0 m (pc + 3) ls (fin.1.toList ++ rest))) : W p l e R s m args below meth c H locs cells slots Q (F0 m pc ls st0) := by
  intro T hT X
  obtain ⟨v, st₀, t, T', L, h0, X', hL, e1, e2, ⟨hv, hb, -, hz, hk⟩, st⟩ := hr T hT X
  cases hv
  rw [h0] at hz hk
  obtain ⟨t2, a1, b1⟩ := kk T'.heap (locs ++ L) (by rw [e1]; exact hb)
    ⟨Nat.le_trans hS.1 (by rw [e1]; exact hz), fun q h1 h2 => by rw [e1, hk q (Nat.lt_of_lt_of_le h1 hS.1) h2]; exact hS.2.1 q h1 h2, fun q hq => by
      rcases List.mem_append.mp hq with h | h
      · exact hS.2.2 q h
      · exact hL q h⟩ T' rfl X'
  exact ⟨t2, st t2 a1, b1⟩
end CALLS
section ROWS2
variable {ρ : Type} {X : Cx} {ov : ρ → Option Value × Me} {F : Option ρ} {mm : Me} {pc : Nat} {L L' : List (Nat × Value)} {st stk : List Value} {cc : ByteArray} {own : String} {nL fr : Nat}
variable {y : MethodName} {cy : ByteArray} {nLy idx n ci o fy : Nat} {ret : Option FieldType} {As : (Nat → Nat) → List Value} {fin : (Nat → Nat) → Option Value × Me}
theorem r_callV (hX : Gd X cc own nL fr) (hd : decode cc pc = .ok (.invokevirtual idx, 3)) (hM : MI y cy nLy ret n) (hV : MV y ci) (hw : Cond.methodLink own idx y ∈ gt) (h9 : kd o = ci) (hct : Ct y cy nLy ret fy (fun ad => .ref (ad o) :: As ad) mm fin) (hn : (As (xad X)).length = n) (hst : stk = (As (xad X)).reverse ++ rX X o :: st) (hcat : (st.map fun v => v.category).sum ≤ 8) (hf : fy < fr)
    (k : J X ov F (fin (xad X)).2 (pc + 3) L ((fin (xad X)).1.toList ++ st)) : J X ov F mm pc L stk := by
  obtain ⟨p, l, e, R, s, m, args, below, meth, c, D, cy', ad, A, sad, kc, ks, fn, qq⟩ := X
  obtain ⟨hx, hb, hml, hown, hts, hK, hA, hSt, hlk, hfr, hlo, hkc, hks⟩ := hX
  intro res hF ho H locs ls hP hS hl
  obtain ⟨m1, m2, m3, m4⟩ := hM
  obtain ⟨v1, v2, T, N, v3⟩ := hV
  subst h9
  obtain ⟨q, hq1, hq2⟩ := ws_get (cy := cy') (ad := ad) (m := mm) (o := o) (fun h => by rw [h] at v3; simp at v3)
  have h99 : kd o < 9 := by
    have := (List.getElem?_eq_some_iff.mp v3).1
    simpa using this
  rw [cel_o h99] at hq2
  refine call_any (va_runV (As := As ad) (rest := st) (C := y.cls) (n := n) ⟨hx, hb, hml, hown, hts⟩ (hct l D cy' ad A sad) (cwV (C := y.cls) n hts (fun w h => ?_) rfl rfl rfl ⟨rfl, m3⟩ ⟨?_, ?_⟩) ⟨Pw.blind, va_recv hK hP v3 hq2, fun U hU hW => ⟨rfl, by rw [hU]; exact hP, va_K.moved hW.alike hK, hA, by rw [hU]; exact hSt.kept hW (fun a h1 h2 => hS.2.1 a h1 h2)⟩⟩ rfl hn (hl.1.trans hml) ?_ (lv_room hcat) hd ⟨?_, ?_⟩) hS (fun H1 locs1 hP1 hS1 => k res hF ho H1 locs1 ls hP1 hS1 hl)
  · have hm : w ∈ gt := by
      unfold wsV at h
      rcases List.mem_append.mp h with h | h
      · simp only [List.mem_cons, List.not_mem_nil, or_false] at h
        rcases h with rfl | rfl | rfl | rfl
        · exact hw
        · exact v1
        · exact v2
        · exact m2
      · rcases List.mem_cons.mp h with rfl | h
        · exact m1
        · exact h
    exact gd_all w hm
  · show fy + 1 ≤ R.frames
    omega
  · show 8 + (nLy + 11) + 64 * fy ≤ R.locals
    omega
  · show stk = _
    rw [hst]
    rfl
  · exact hkc
  · exact hks
theorem r_callS (hX : Gd X cc own nL fr) (hd : decode cc pc = .ok (.invokestatic idx, 3)) (hM : MI y cy nLy ret n) (hV : Cond.static y ∈ gt) (hw : Cond.methodLink own idx y ∈ gt) (hct : Ct y cy nLy ret fy As mm fin) (hn : (As (xad X)).length = n) (hst : stk = (As (xad X)).reverse ++ st) (hcat : (st.map fun v => v.category).sum ≤ 8) (hf : fy < fr)
    (k : J X ov F (fin (xad X)).2 (pc + 3) L ((fin (xad X)).1.toList ++ st)) : J X ov F mm pc L stk := by
  obtain ⟨p, l, e, R, s, m, args, below, meth, c, D, cy', ad, A, sad, kc, ks, fn, qq⟩ := X
  obtain ⟨hx, hb, hml, hown, hts, hK, hA, hSt, hlk, hfr, hlo, hkc, hks⟩ := hX
  intro res hF ho H locs ls hP hS hl
  obtain ⟨m1, m2, m3, m4⟩ := hM
  refine call_any (va_runS (As := As ad) (rest := st) (n := n) ⟨hx, hb, hml, hown, hts⟩ (hct l D cy' ad A sad) ⟨callB_of n hts (gd_y m1) rfl rfl rfl (hts _ m2) (hts _ hw) m3 ⟨?_, ?_⟩, hts _ hV⟩ ⟨Pw.blind, fun U hU hW => ⟨rfl, by rw [hU]; exact hP, va_K.moved hW.alike hK, hA, by rw [hU]; exact hSt.kept hW (fun a h1 h2 => hS.2.1 a h1 h2)⟩⟩ rfl hn (hl.1.trans hml) ?_ (lv_room hcat) hd ⟨?_, ?_⟩) hS (fun H1 locs1 hP1 hS1 => k res hF ho H1 locs1 ls hP1 hS1 hl)
  · show fy + 1 ≤ R.frames
    omega
  · show 8 + (nLy + 11) + 64 * fy ≤ R.locals
    omega
  · show stk = _
    rw [hst]
    rfl
  · exact hkc
  · exact hks
/-! the answers, taken apart -/
theorem r_cP {α : Type} {x : Option α} {K : α → Option ρ} (k : ∀ r, x = some r → J X ov (K r) mm pc L st) : J X ov (cP x K) mm pc L st := by
  cases x with
  | none => exact r_none
  | some r => exact k r rfl
theorem r_cI {α : Type} {x : Option (α × Me)} {K : α → Me → Option ρ} (k : ∀ r m', x = some (r, m') → J X ov (K r m') mm pc L st) : J X ov (cI x K) mm pc L st := by
  cases x with
  | none => exact r_none
  | some r => exact k r.1 r.2 rfl
end ROWS2
