theorem obj_i : Cond.instanceMethod objectInit ∈ gt := gt_in (by decide +kernel) rfl
theorem obj_c : Cond.code objectInit ⟨#[0xb1]⟩ 1 none ∈ gt := gt_in (by decide +kernel) rfl
theorem arc_I : Cond.arrayClass .int ∈ gt := gt_in (by decide +kernel) rfl
theorem arc_J : Cond.arrayClass .long ∈ gt := gt_in (by decide +kernel) rfl
theorem arc_Z : Cond.arrayClass .boolean ∈ gt := gt_in (by decide +kernel) rfl
theorem dv_cat {ad : Nat → Nat} {v : Value} : (dv ad v).category = v.category := by cases v <;> rfl
theorem dL_filter {ad : Nat → Nat} {L : List (Nat × Value)} {i : Nat} {x : Int32} : (i, Value.int x) :: (dL ad L).filter (fun q => !(q.1 == i) && !(q.1 + 1 == i && q.2.category == 2)) = dL ad ((i, Value.int x) :: L.filter (fun q => !(q.1 == i) && !(q.1 + 1 == i && q.2.category == 2))) := by
  unfold dL
  rw [List.filter_map, List.map_cons]
  congr 1
  congr 1
  apply List.filter_congr
  intro q _
  simp [Function.comp, dv_cat]
theorem dL_at {ad : Nat → Nat} {L : List (Nat × Value)} {q i : Nat} {v : Value} (h : L[q]? = some (i, v)) : (dL ad L)[q]? = some (i, dv ad v) := by
  unfold dL
  rw [List.getElem?_map, h]
  rfl
theorem Li_i {Ls : List Nat} {st : List Value} {x : Int32} (h : ∀ v ∈ st, Li Ls v) : ∀ v ∈ (.int x :: st), Li Ls v := by
  intro v hv
  rcases List.mem_cons.mp hv with rfl | hv
  · intro o ho; cases ho
  · exact h v hv
theorem Li_r {Ls : List Nat} {st : List Value} {n : Nat} (hn : n ∈ Ls) (h : ∀ v ∈ st, Li Ls v) : ∀ v ∈ (.ref n :: st), Li Ls v := by
  intro v hv
  rcases List.mem_cons.mp hv with rfl | hv
  · intro o ho; cases ho; exact hn
  · exact h v hv
theorem Li_tl {Ls : List Nat} {st : List Value} {x : Value} (h : ∀ v ∈ (x :: st), Li Ls v) : ∀ v ∈ st, Li Ls v := fun v hv => h v (List.mem_cons_of_mem _ hv)
theorem Li_up {Ls : List Nat} {n : Nat} {v : Value} (h : Li Ls v) : Li (Ls ++ [n]) v := fun o ho => List.mem_append_left _ (h o ho)
theorem dv_up {ad ad' : Nat → Nat} {Ls : List Nat} (h : ∀ o ∈ Ls, ad' o = ad o) {v : Value} (hv : Li Ls v) : dv ad' v = dv ad v := by
  cases v <;> first | rfl | (show Value.ref _ = Value.ref _; rw [h _ (hv _ rfl)])
theorem dvs_up {ad ad' : Nat → Nat} {Ls : List Nat} (h : ∀ o ∈ Ls, ad' o = ad o) {st : List Value} (hv : ∀ v ∈ st, Li Ls v) : st.map (dv ad') = st.map (dv ad) := List.map_congr_left (fun v hm => dv_up h (hv v hm))
theorem dL_up {ad ad' : Nat → Nat} {Ls : List Nat} (h : ∀ o ∈ Ls, ad' o = ad o) {L : List (Nat × Value)} (hv : ∀ q ∈ L, Li Ls q.2) : dL ad' L = dL ad L := List.map_congr_left (fun q hm => by rw [dv_up h (hv q hm)])
def rs (r : Nat → Nat → Option Nat) (o j n : Nat) : Nat → Nat → Option Nat := fun a b => if a = o ∧ b = j then some n else r a b
theorem Cl_rs {r : Nat → Nat → Option Nat} {Ls : List Nat} {o j n : Nat} (h : Cl r Ls) (hn : n ∈ Ls) : Cl (rs r o j n) Ls := by
  intro a ha b o' hb
  unfold rs at hb
  by_cases q : a = o ∧ b = j
  · rw [if_pos q] at hb; cases hb; exact hn
  · rw [if_neg q] at hb; exact h a ha b o' hb
theorem nin_app {n k : Nat} {Ls : List Nat} (h : n ∉ Ls) (h2 : n ≠ k) : n ∉ Ls ++ [k] := by
  intro q
  rcases List.mem_append.mp q with q | q
  · exact h q
  · exact h2 (List.mem_singleton.mp q)
theorem fs2_rs {ad : Nat → Nat} {r : Nat → Nat → Option Nat} {o j n : Nat} (ht : ft (kd o) j = 3) : fs2 ad (rs r o j n) o = (fs2 ad r o).set j (.ref (ad n)) := by
  apply List.ext_getElem?
  intro i
  unfold fs2
  rw [List.getElem?_set, List.getElem?_map, List.getElem?_map, List.length_map, List.length_range]
  by_cases hi : j = i
  · subst hi
    rw [if_pos rfl]
    by_cases hl : j < nf (kd o)
    · rw [if_pos hl, List.getElem?_range hl]
      show some (sv2 ad (rs r o j n) o j (ft (kd o) j)) = _
      unfold sv2
      rw [if_neg (by omega), if_neg (by omega)]
      simp [rs, va_rf]
    · rw [if_neg hl, List.getElem?_eq_none (by simpa using hl)]
      rfl
  · rw [if_neg hi]
    by_cases hl : i < nf (kd o)
    · rw [List.getElem?_range hl]
      show some (sv2 ad (rs r o j n) o i (ft (kd o) i)) = some (sv2 ad r o i (ft (kd o) i))
      unfold sv2 rs
      simp [Ne.symm hi]
    · rw [List.getElem?_eq_none (by simpa using hl)]
      rfl
theorem ce2_o {cy : Nat → ClassId} {ad : Nat → Nat} {r : Nat → Nat → Option Nat} {o : Nat} (h : kd o < 9) : ce2 cy ad r o = .inr (kd o, fs2 ad r o) := by
  unfold ce2; rw [if_pos h]
theorem ce2_ne {cy : Nat → ClassId} {ad : Nat → Nat} {r : Nat → Nat → Option Nat} {o o' j n : Nat} (h : o' ≠ o) : ce2 cy ad (rs r o j n) o' = ce2 cy ad r o' := ce2_congr (fun b => by unfold rs; rw [if_neg (fun q => h q.1)])
section DROWS
variable {X : Cx} {L0 Ls : List Nat} {r : Nat → Nat → Option Nat} {kc ks pc : Nat} {L L' : List (Nat × Value)} {st : List Value} {cc : ByteArray} {own : String} {nL fr mc ms : Nat}
theorem dr_iconst (hX : Gg X cc own nL fr mc ms) {n : Int} {v : Int32} (hd : decode cc pc = .ok (.iconst n, 1)) (hv : Int32.ofInt n = v) (k : JD X L0 Ls r kc ks (pc + 1) L (.int v :: st)) : JD X L0 Ls r kc ks pc L st := by
  obtain ⟨p, l, e, R, s, m, args, below, meth, c, D, cy, ad0, A, sad, kc', ks', fin, qq⟩ := X
  obtain ⟨hx, hb, hml, hown, hts, hK, hA, hlk, hfr, hlo, hmc, hms, hB, hC, hN⟩ := hX
  intro ad H locs ls h0 h1 h2 h3 h4 h5 hP hS hl
  exact lv_iconst hx hb hd hv (k ad H locs ls h0 h1 h2 h3 h4 (Li_i h5) hP hS hl)
theorem dr_bipush (hX : Gg X cc own nL fr mc ms) {n : Int} {v : Int32} (hd : decode cc pc = .ok (.bipush n, 2)) (hv : (Int8.ofInt n).toInt32 = v) (k : JD X L0 Ls r kc ks (pc + 2) L (.int v :: st)) : JD X L0 Ls r kc ks pc L st := by
  obtain ⟨p, l, e, R, s, m, args, below, meth, c, D, cy, ad0, A, sad, kc', ks', fin, qq⟩ := X
  obtain ⟨hx, hb, hml, hown, hts, hK, hA, hlk, hfr, hlo, hmc, hms, hB, hC, hN⟩ := hX
  intro ad H locs ls h0 h1 h2 h3 h4 h5 hP hS hl
  exact lv_bipush hx hb hd hv (k ad H locs ls h0 h1 h2 h3 h4 (Li_i h5) hP hS hl)
theorem dr_sipush (hX : Gg X cc own nL fr mc ms) {n : Int} {v : Int32} (hd : decode cc pc = .ok (.sipush n, 3)) (hv : (Int16.ofInt n).toInt32 = v) (k : JD X L0 Ls r kc ks (pc + 3) L (.int v :: st)) : JD X L0 Ls r kc ks pc L st := by
  obtain ⟨p, l, e, R, s, m, args, below, meth, c, D, cy, ad0, A, sad, kc', ks', fin, qq⟩ := X
  obtain ⟨hx, hb, hml, hown, hts, hK, hA, hlk, hfr, hlo, hmc, hms, hB, hC, hN⟩ := hX
  intro ad H locs ls h0 h1 h2 h3 h4 h5 hP hS hl
  exact lv_sipush hx hb hd hv (k ad H locs ls h0 h1 h2 h3 h4 (Li_i h5) hP hS hl)
theorem dr_aload_n (hX : Gg X cc own nL fr mc ms) {k4 : Fin 4} {i n : Nat} (q : Nat) (hd : decode cc pc = .ok (.aload_n k4, 1)) (hi : (k4 : Nat) = i) (hq : L[q]? = some (i, .ref n)) (k : JD X L0 Ls r kc ks (pc + 1) L (.ref n :: st)) : JD X L0 Ls r kc ks pc L st := by
  obtain ⟨p, l, e, R, s, m, args, below, meth, c, D, cy, ad0, A, sad, kc', ks', fin, qq⟩ := X
  obtain ⟨hx, hb, hml, hown, hts, hK, hA, hlk, hfr, hlo, hmc, hms, hB, hC, hN⟩ := hX
  intro ad H locs ls h0 h1 h2 h3 h4 h5 hP hS hl
  exact lv_aload_n hx hb hd hi (lv_at hl q (dL_at hq)) (k ad H locs ls h0 h1 h2 h3 h4 (Li_r (h4 _ (List.mem_of_getElem? hq) n rfl) h5) hP hS hl)
theorem dr_iload_n (hX : Gg X cc own nL fr mc ms) {k4 : Fin 4} {i : Nat} {x : Int32} (q : Nat) (hd : decode cc pc = .ok (.iload_n k4, 1)) (hi : (k4 : Nat) = i) (hq : L[q]? = some (i, .int x)) (k : JD X L0 Ls r kc ks (pc + 1) L (.int x :: st)) : JD X L0 Ls r kc ks pc L st := by
  obtain ⟨p, l, e, R, s, m, args, below, meth, c, D, cy, ad0, A, sad, kc', ks', fin, qq⟩ := X
  obtain ⟨hx, hb, hml, hown, hts, hK, hA, hlk, hfr, hlo, hmc, hms, hB, hC, hN⟩ := hX
  intro ad H locs ls h0 h1 h2 h3 h4 h5 hP hS hl
  exact lv_iload_n hx hb hd hi (lv_at hl q (dL_at hq)) (k ad H locs ls h0 h1 h2 h3 h4 (Li_i h5) hP hS hl)
theorem dr_istore_n (hX : Gg X cc own nL fr mc ms) {k4 : Fin 4} {i : Nat} {x : Int32} (hd : decode cc pc = .ok (.istore_n k4, 1)) (hi : (k4 : Nat) = i) (hn : i < nL) (hL : ((i, Value.int x) :: L.filter (fun q => !(q.1 == i) && !(q.1 + 1 == i && q.2.category == 2))) = L') (k : JD X L0 Ls r kc ks (pc + 1) L' st) : JD X L0 Ls r kc ks pc L (.int x :: st) := by
  obtain ⟨p, l, e, R, s, m, args, below, meth, c, D, cy, ad0, A, sad, kc', ks', fin, qq⟩ := X
  obtain ⟨hx, hb, hml, hown, hts, hK, hA, hlk, hfr, hlo, hmc, hms, hB, hC, hN⟩ := hX
  intro ad H locs ls h0 h1 h2 h3 h4 h5 hP hS hl
  refine lv_istore_n hx hb hd hi hl (by rw [hml]; exact hn) (dL_filter.trans (by rw [hL])) (fun ls hl => ?_)
  refine k ad H locs ls h0 h1 h2 h3 (fun q hq => ?_) (Li_tl h5) hP hS hl
  rw [← hL] at hq
  rcases List.mem_cons.mp hq with rfl | hq
  · intro o ho; cases ho
  · exact h4 q (List.mem_filter.mp hq).1
theorem dr_iinc (hX : Gg X cc own nL fr mc ms) {i : Nat} {n : Int} {y x : Int32} (q0 : Nat) (hd : decode cc pc = .ok (.iinc i n, 3)) (hq : L[q0]? = some (i, .int y)) (hv : y + Int32.ofInt n = x) (hn : i < nL) (hL : ((i, Value.int x) :: L.filter (fun q => !(q.1 == i) && !(q.1 + 1 == i && q.2.category == 2))) = L') (k : JD X L0 Ls r kc ks (pc + 3) L' st) : JD X L0 Ls r kc ks pc L st := by
  obtain ⟨p, l, e, R, s, m, args, below, meth, c, D, cy, ad0, A, sad, kc', ks', fin, qq⟩ := X
  obtain ⟨hx, hb, hml, hown, hts, hK, hA, hlk, hfr, hlo, hmc, hms, hB, hC, hN⟩ := hX
  intro ad H locs ls h0 h1 h2 h3 h4 h5 hP hS hl
  refine lv_iinc hx hb hd hl (dL_at hq) hv (by rw [hml]; exact hn) (dL_filter.trans (by rw [hL])) (fun ls hl => ?_)
  refine k ad H locs ls h0 h1 h2 h3 (fun q hq => ?_) h5 hP hS hl
  rw [← hL] at hq
  rcases List.mem_cons.mp hq with rfl | hq
  · intro o ho; cases ho
  · exact h4 q (List.mem_filter.mp hq).1
theorem dr_icmp_ge (hX : Gg X cc own nL fr mc ms) {x y : Int32} {off : Int} {tgt : Nat} (hd : decode cc pc = .ok (.if_icmp .ge off, 3)) (ht : (pc : Int) + off = (tgt : Int)) (kt : y ≤ x → JD X L0 Ls r kc ks tgt L st) (kf : ¬ y ≤ x → JD X L0 Ls r kc ks (pc + 3) L st) : JD X L0 Ls r kc ks pc L (.int y :: .int x :: st) := by
  obtain ⟨p, l, e, R, s, m, args, below, meth, c, D, cy, ad0, A, sad, kc', ks', fin, qq⟩ := X
  obtain ⟨hx, hb, hml, hown, hts, hK, hA, hlk, hfr, hlo, hmc, hms, hB, hC, hN⟩ := hX
  intro ad H locs ls h0 h1 h2 h3 h4 h5 hP hS hl
  exact lv_icmp_ge hx hb hd ht (fun h => kt h ad H locs ls h0 h1 h2 h3 h4 (Li_tl (Li_tl h5)) hP hS hl) (fun h => kf h ad H locs ls h0 h1 h2 h3 h4 (Li_tl (Li_tl h5)) hP hS hl)
theorem dr_goto (hX : Gg X cc own nL fr mc ms) {off : Int} {tgt : Nat} (hd : decode cc pc = .ok (.goto off, 3)) (ht : (pc : Int) + off = (tgt : Int)) (k : JD X L0 Ls r kc ks tgt L st) : JD X L0 Ls r kc ks pc L st := by
  obtain ⟨p, l, e, R, s, m, args, below, meth, c, D, cy, ad0, A, sad, kc', ks', fin, qq⟩ := X
  obtain ⟨hx, hb, hml, hown, hts, hK, hA, hlk, hfr, hlo, hmc, hms, hB, hC, hN⟩ := hX
  intro ad H locs ls h0 h1 h2 h3 h4 h5 hP hS hl
  exact lv_goto hx hb hd ht (k ad H locs ls h0 h1 h2 h3 h4 h5 hP hS hl)
theorem dr_dup (hX : Gg X cc own nL fr mc ms) {v : Value} (hd : decode cc pc = .ok (.dup, 1)) (hv : v.category = 1) (k : JD X L0 Ls r kc ks (pc + 1) L (v :: v :: st)) : JD X L0 Ls r kc ks pc L (v :: st) := by
  obtain ⟨p, l, e, R, s, m, args, below, meth, c, D, cy, ad0, A, sad, kc', ks', fin, qq⟩ := X
  obtain ⟨hx, hb, hml, hown, hts, hK, hA, hlk, hfr, hlo, hmc, hms, hB, hC, hN⟩ := hX
  intro ad H locs ls h0 h1 h2 h3 h4 h5 hP hS hl
  exact lv_dup hx hb hd (by rw [dv_cat]; exact hv) (k ad H locs ls h0 h1 h2 h3 h4 (fun x hx => by rcases List.mem_cons.mp hx with rfl | hx <;> first | exact h5 _ List.mem_cons_self | exact h5 _ hx) hP hS hl)
theorem dr_objinit (hX : Gg X cc own nL fr mc ms) {idx n : Nat} (hd : decode cc pc = .ok (.invokespecial idx, 3)) (hw : Cond.methodLink own idx objectInit ∈ gt) (hf : 1 ≤ fr) (hcat : (st.map fun v => v.category).sum ≤ 8) (k : JD X L0 Ls r kc ks (pc + 3) L st) : JD X L0 Ls r kc ks pc L (.ref n :: st) := by
  obtain ⟨p, l, e, R, s, m, args, below, meth, c, D, cy, ad0, A, sad, kc', ks', fin, qq⟩ := X
  obtain ⟨hx, hb, hml, hown, hts, hK, hA, hlk, hfr, hlo, hmc, hms, hB, hC, hN⟩ := hX
  intro ad H locs ls h0 h1 h2 h3 h4 h5 hP hS hl
  refine W.objInit hx hb hown (hts _ hw) (hts _ obj_i) (hts _ obj_c) rfl hl.1 rfl hd (by omega) ?_ ?_
  · have : ((st.map (dv ad)).map fun v => v.category) = st.map fun v => v.category := by rw [List.map_map]; exact List.map_congr_left (fun v _ => dv_cat)
    show 2 * 0 + _ + 12 ≤ _
    rw [this]
    omega
  · exact k ad H locs ls h0 h1 h2 h3 h4 (Li_tl h5) hP hS hl
theorem dr_newaI (hX : Gg X cc own nL fr mc ms) {N : Int32} (n N2 : Nat) (hd : decode cc pc = .ok (.newarray .int, 2)) (hkd : kd n = 20) (hln : ln n = N2) (hN0 : ¬ N < 0) (hN1 : N.toNatClampNeg = N2) (hN2 : N2 ≤ 4000) (hn : n ∉ Ls) (hr : ∀ j, r n j = none) (hk1 : kc + 1 ≤ mc) (hk3 : ks + N2 ≤ ms) (k : JD X L0 (Ls ++ [n]) r (kc + 1) (ks + N2) (pc + 2) L (.ref n :: st)) : JD X L0 Ls r kc ks pc L (.int N :: st) := by
  obtain ⟨p, l, e, R, s, m, args, below, meth, c, D, cy, ad0, A, sad, kc', ks', fin, qq⟩ := X
  obtain ⟨hx, hb, hml, hown, hts, hK, hA, hlk, hfr, hlo, hmc, hms, hB, hC, hN⟩ := hX
  intro ad H locs ls h0 h1 h2 h3 h4 h5 hP hS hl
  refine va_newa (atype := .int) (ty := .int) (a0 := (N2, .inl (fun _ => 0))) hx hb (hts _ arc_I) rfl hK hP (h3.D cy r) hS hA (fun _ => rfl) hN0 hN1 (by show N2 * 4 ≤ _; omega) (by omega) (by omega) hd (fun q cA H1 hK1 hP1 hD1 hS1 => ?_)
  have hcA : cA = cy 0 := by
    have a1 := (hK1.2 5 (cA, .int) rfl).2
    have a2 := (hK.2 0 (cy 0, .int) rfl).2
    exact Option.some.inj (Eq.trans (Eq.symm a1) a2)
  subst hcA
  obtain ⟨e1, e2, e3, e4⟩ := ws2_push h2 h3 hn hr (fun _ => by unfold ce2; rw [hkd, hln]; rfl) hD1
  rw [e1] at hP1
  have hk2 := k (va_up ad n q) H1 locs ls (fun o ho => List.mem_append_left _ (h0 o ho)) (fun o ho => (e3 o (h0 o ho)).trans (h1 o ho)) e4 e2 (fun q hq => Li_up (h4 q hq)) (Li_r (List.mem_append_right _ (List.mem_singleton.mpr rfl)) (fun v hv => Li_up ((Li_tl h5) v hv))) hP1 hS1 (by rw [dL_up e3 h4]; exact hl)
  rw [List.map_cons, dvs_up e3 (Li_tl h5), show dv (va_up ad n q) (.ref n) = .ref q by unfold dv va_up; simp] at hk2
  exact hk2
theorem dr_newaJ (hX : Gg X cc own nL fr mc ms) {N : Int32} (n N2 : Nat) (hd : decode cc pc = .ok (.newarray .long, 2)) (hkd : kd n = 21) (hln : ln n = N2) (hN0 : ¬ N < 0) (hN1 : N.toNatClampNeg = N2) (hN2 : N2 ≤ 4000) (hn : n ∉ Ls) (hr : ∀ j, r n j = none) (hk1 : kc + 1 ≤ mc) (hk3 : ks + N2 ≤ ms) (k : JD X L0 (Ls ++ [n]) r (kc + 1) (ks + N2) (pc + 2) L (.ref n :: st)) : JD X L0 Ls r kc ks pc L (.int N :: st) := by
  obtain ⟨p, l, e, R, s, m, args, below, meth, c, D, cy, ad0, A, sad, kc', ks', fin, qq⟩ := X
  obtain ⟨hx, hb, hml, hown, hts, hK, hA, hlk, hfr, hlo, hmc, hms, hB, hC, hN⟩ := hX
  intro ad H locs ls h0 h1 h2 h3 h4 h5 hP hS hl
  refine va_newa (atype := .long) (ty := .long) (a0 := (N2, .inr (.inl (fun _ => 0)))) hx hb (hts _ arc_J) rfl hK hP (h3.D cy r) hS hA (fun _ => rfl) hN0 hN1 (by show N2 * 8 ≤ _; omega) (by omega) (by omega) hd (fun q cA H1 hK1 hP1 hD1 hS1 => ?_)
  have hcA : cA = cy 1 := by
    have a1 := (hK1.2 5 (cA, .long) rfl).2
    have a2 := (hK.2 1 (cy 1, .long) rfl).2
    exact Option.some.inj (Eq.trans (Eq.symm a1) a2)
  subst hcA
  obtain ⟨e1, e2, e3, e4⟩ := ws2_push h2 h3 hn hr (fun _ => by unfold ce2; rw [hkd, hln]; rfl) hD1
  rw [e1] at hP1
  have hk2 := k (va_up ad n q) H1 locs ls (fun o ho => List.mem_append_left _ (h0 o ho)) (fun o ho => (e3 o (h0 o ho)).trans (h1 o ho)) e4 e2 (fun q hq => Li_up (h4 q hq)) (Li_r (List.mem_append_right _ (List.mem_singleton.mpr rfl)) (fun v hv => Li_up ((Li_tl h5) v hv))) hP1 hS1 (by rw [dL_up e3 h4]; exact hl)
  rw [List.map_cons, dvs_up e3 (Li_tl h5), show dv (va_up ad n q) (.ref n) = .ref q by unfold dv va_up; simp] at hk2
  exact hk2
theorem dr_newaZ (hX : Gg X cc own nL fr mc ms) {N : Int32} (n N2 : Nat) (hd : decode cc pc = .ok (.newarray .boolean, 2)) (hkd : kd n = 22) (hln : ln n = N2) (hN0 : ¬ N < 0) (hN1 : N.toNatClampNeg = N2) (hN2 : N2 ≤ 4000) (hn : n ∉ Ls) (hr : ∀ j, r n j = none) (hk1 : kc + 1 ≤ mc) (hk3 : ks + N2 ≤ ms) (k : JD X L0 (Ls ++ [n]) r (kc + 1) (ks + N2) (pc + 2) L (.ref n :: st)) : JD X L0 Ls r kc ks pc L (.int N :: st) := by
  obtain ⟨p, l, e, R, s, m, args, below, meth, c, D, cy, ad0, A, sad, kc', ks', fin, qq⟩ := X
  obtain ⟨hx, hb, hml, hown, hts, hK, hA, hlk, hfr, hlo, hmc, hms, hB, hC, hN⟩ := hX
  intro ad H locs ls h0 h1 h2 h3 h4 h5 hP hS hl
  refine va_newa (atype := .boolean) (ty := .boolean) (a0 := (N2, .inl (fun _ => 0))) hx hb (hts _ arc_Z) rfl hK hP (h3.D cy r) hS hA (fun _ => rfl) hN0 hN1 (by show N2 * 1 ≤ _; omega) (by omega) (by omega) hd (fun q cA H1 hK1 hP1 hD1 hS1 => ?_)
  have hcA : cA = cy 2 := by
    have a1 := (hK1.2 5 (cA, .boolean) rfl).2
    have a2 := (hK.2 2 (cy 2, .boolean) rfl).2
    exact Option.some.inj (Eq.trans (Eq.symm a1) a2)
  subst hcA
  obtain ⟨e1, e2, e3, e4⟩ := ws2_push h2 h3 hn hr (fun _ => by unfold ce2; rw [hkd, hln]; rfl) hD1
  rw [e1] at hP1
  have hk2 := k (va_up ad n q) H1 locs ls (fun o ho => List.mem_append_left _ (h0 o ho)) (fun o ho => (e3 o (h0 o ho)).trans (h1 o ho)) e4 e2 (fun q hq => Li_up (h4 q hq)) (Li_r (List.mem_append_right _ (List.mem_singleton.mpr rfl)) (fun v hv => Li_up ((Li_tl h5) v hv))) hP1 hS1 (by rw [dL_up e3 h4]; exact hl)
  rw [List.map_cons, dvs_up e3 (Li_tl h5), show dv (va_up ad n q) (.ref n) = .ref q by unfold dv va_up; simp] at hk2
  exact hk2
theorem dr_newqB (hX : Gg X cc own nL fr mc ms) {N : Int32} {idx : Nat} (n N2 : Nat) (hd : decode cc pc = .ok (.anewarray idx, 3)) (hw : Cond.classLink own idx RX0 ∈ gt) (hkd : kd n = 23) (hln : ln n = N2) (hN0 : ¬ N < 0) (hN1 : N.toNatClampNeg = N2) (hN2 : N2 ≤ 4000) (hn : n ∉ Ls) (hr : ∀ j, r n j = none) (hk1 : kc + 1 ≤ mc) (hk3 : ks + N2 ≤ ms) (k : JD X L0 (Ls ++ [n]) r (kc + 1) (ks + N2) (pc + 3) L (.ref n :: st)) : JD X L0 Ls r kc ks pc L (.int N :: st) := by
  obtain ⟨p, l, e, R, s, m, args, below, meth, c, D, cy, ad0, A, sad, kc', ks', fin, qq⟩ := X
  obtain ⟨hx, hb, hml, hown, hts, hK, hA, hlk, hfr, hlo, hmc, hms, hB, hC, hN⟩ := hX
  intro ad H locs ls h0 h1 h2 h3 h4 h5 hP hS hl
  refine va_newq hx hb hown (hts _ hw) hB hK hP (h3.D cy r) hS hA hN0 hN1 (by omega) (by omega) (by omega) hd (fun q cA H1 hK1 hP1 hD1 hS1 => ?_)
  have hcA : cA = cy 3 := by
    obtain ⟨-, -, -, -, -, a1⟩ := (hK1.2 5 (cA, .object RX0) rfl).2
    obtain ⟨-, -, -, -, -, a2⟩ := (hK.2 3 (cy 3, .object RX0) rfl).2
    exact Option.some.inj (a1.symm.trans a2)
  subst hcA
  obtain ⟨e1, e2, e3, e4⟩ := ws2_push h2 h3 hn hr (fun _ => by unfold ce2; simp only [hr]; rw [hkd, hln]; rfl) hD1
  rw [e1] at hP1
  have hk2 := k (va_up ad n q) H1 locs ls (fun o ho => List.mem_append_left _ (h0 o ho)) (fun o ho => (e3 o (h0 o ho)).trans (h1 o ho)) e4 e2 (fun q hq => Li_up (h4 q hq)) (Li_r (List.mem_append_right _ (List.mem_singleton.mpr rfl)) (fun v hv => Li_up ((Li_tl h5) v hv))) hP1 hS1 (by rw [dL_up e3 h4]; exact hl)
  rw [List.map_cons, dvs_up e3 (Li_tl h5), show dv (va_up ad n q) (.ref n) = .ref q by unfold dv va_up; simp] at hk2
  exact hk2
theorem dr_newqC (hX : Gg X cc own nL fr mc ms) {N : Int32} {idx : Nat} (n N2 : Nat) (hd : decode cc pc = .ok (.anewarray idx, 3)) (hw : Cond.classLink own idx RX1 ∈ gt) (hkd : kd n = 24) (hln : ln n = N2) (hN0 : ¬ N < 0) (hN1 : N.toNatClampNeg = N2) (hN2 : N2 ≤ 4000) (hn : n ∉ Ls) (hr : ∀ j, r n j = none) (hk1 : kc + 1 ≤ mc) (hk3 : ks + N2 ≤ ms) (k : JD X L0 (Ls ++ [n]) r (kc + 1) (ks + N2) (pc + 3) L (.ref n :: st)) : JD X L0 Ls r kc ks pc L (.int N :: st) := by
  obtain ⟨p, l, e, R, s, m, args, below, meth, c, D, cy, ad0, A, sad, kc', ks', fin, qq⟩ := X
  obtain ⟨hx, hb, hml, hown, hts, hK, hA, hlk, hfr, hlo, hmc, hms, hB, hC, hN⟩ := hX
  intro ad H locs ls h0 h1 h2 h3 h4 h5 hP hS hl
  refine va_newq hx hb hown (hts _ hw) hC hK hP (h3.D cy r) hS hA hN0 hN1 (by omega) (by omega) (by omega) hd (fun q cA H1 hK1 hP1 hD1 hS1 => ?_)
  have hcA : cA = cy 4 := by
    obtain ⟨-, -, -, -, -, a1⟩ := (hK1.2 5 (cA, .object RX1) rfl).2
    obtain ⟨-, -, -, -, -, a2⟩ := (hK.2 4 (cy 4, .object RX1) rfl).2
    exact Option.some.inj (a1.symm.trans a2)
  subst hcA
  obtain ⟨e1, e2, e3, e4⟩ := ws2_push h2 h3 hn hr (fun _ => by unfold ce2; simp only [hr]; rw [hkd, hln]; rfl) hD1
  rw [e1] at hP1
  have hk2 := k (va_up ad n q) H1 locs ls (fun o ho => List.mem_append_left _ (h0 o ho)) (fun o ho => (e3 o (h0 o ho)).trans (h1 o ho)) e4 e2 (fun q hq => Li_up (h4 q hq)) (Li_r (List.mem_append_right _ (List.mem_singleton.mpr rfl)) (fun v hv => Li_up ((Li_tl h5) v hv))) hP1 hS1 (by rw [dL_up e3 h4]; exact hl)
  rw [List.map_cons, dvs_up e3 (Li_tl h5), show dv (va_up ad n q) (.ref n) = .ref q by unfold dv va_up; simp] at hk2
  exact hk2
theorem dr_new (hX : Gg X cc own nL fr mc ms) {idx ci N : Nat} {C : String} {T : u_T} {ty : Nat → FieldType} (n : Nat) (hd : decode cc pc = .ok (.new idx, 3)) (hf : KC ci C T N ty) (hdf : ∀ j, j < N → defaultValue (ty j) = (if ft ci j < 2 then Value.int 0 else if ft ci j = 2 then Value.long 0 else Value.null)) (hw1 : Cond.classLink own idx C ∈ gt) (hw2 : Cond.instantiable C N ∈ gt) (hw3 : Cond.initialized C ∈ gt) (hkd : kd n = ci) (hn : n ∉ Ls) (hr : ∀ j, r n j = none) (hk1 : kc + 1 ≤ mc) (hk3 : ks + N ≤ ms) (k : JD X L0 (Ls ++ [n]) r (kc + 1) (ks + N) (pc + 3) L (.ref n :: st)) : JD X L0 Ls r kc ks pc L st := by
  obtain ⟨p, l, e, R, s, m, args, below, meth, c, D, cy, ad0, A, sad, kc', ks', fin, qq⟩ := X
  obtain ⟨hx, hb, hml, hown, hts, hK, hA, hlk, hfr, hlo, hmc, hms, hB, hC, hN⟩ := hX
  intro ad H locs ls h0 h1 h2 h3 h4 h5 hP hS hl
  obtain ⟨k1, k2, k3, k4, k5, k6⟩ := hf
  subst hkd
  refine va_new (fs := fs2 ad r n) hx hb hts k2 ty k3 hown (hts _ hw1) (hts _ hw2) (hts _ hw3) hK hP (h3.D cy r) hS hA k1 (fun j hj => ?_) (by omega) (by omega) hd (fun q H1 hP1 hD1 hS1 => ?_)
  · rw [hdf j hj]
    unfold vp_V fs2
    rw [List.getD_eq_getElem?_getD, List.getElem?_map, List.getElem?_range (by rw [← k5]; exact hj)]
    show _ = sv2 ad r n j (ft (kd n) j)
    unfold sv2
    rw [hr]
    rfl
  · have hfs : ∀ ad', fs2 ad' r n = fs2 ad r n := fun ad' => by unfold fs2 sv2; simp only [hr]; rfl
    obtain ⟨e1, e2, e3, e4⟩ := ws2_push h2 h3 hn hr (fun ad' => by rw [ce2_o k6, hfs]) hD1
    rw [e1] at hP1
    have hk2 := k (va_up ad n q) H1 locs ls (fun o ho => List.mem_append_left _ (h0 o ho)) (fun o ho => (e3 o (h0 o ho)).trans (h1 o ho)) e4 e2 (fun q hq => Li_up (h4 q hq)) (Li_r (List.mem_append_right _ (List.mem_singleton.mpr rfl)) (fun v hv => Li_up (h5 v hv))) hP1 hS1 (by rw [dL_up e3 h4]; exact hl)
    rw [List.map_cons, dvs_up e3 h5, show dv (va_up ad n q) (.ref n) = .ref q by unfold dv va_up; simp] at hk2
    exact hk2
theorem dr_putF (hX : Gg X cc own nL fr mc ms) {idx ci j o n : Nat} {tv : FieldType} (hin : xin X) (hd : decode cc pc = .ok (.putfield idx, 3)) (hf : FP own idx ci j 3 tv true) (hkd : kd o = ci) (hco : (vwCl[ci]?).map (fun q => q.1) = some own) (hna : ∀ a, narrow tv (.ref a) = .ref a) (hfi : ∀ a, fits tv (.ref a) = true) (k : JD X L0 Ls (rs r o j n) kc ks (pc + 3) L st) : JD X L0 Ls r kc ks pc L (.ref n :: .ref o :: st) := by
  obtain ⟨p, l, e, R, s, m, args, below, meth, c, D, cy, ad0, A, sad, kc', ks', fin, qq⟩ := X
  obtain ⟨hx, hb, hml, hown, hts, hK, hA, hlk, hfr, hlo, hmc, hms, hB, hC, hN⟩ := hX
  intro ad H locs ls h0 h1 h2 h3 h4 h5 hP hS hl
  obtain ⟨C, T, N, ty, ⟨k1, k2, k3, k4, k5, k6⟩, f1, f2, f3, f4, f5⟩ := hf
  have hCo : C = own := by rw [k1] at hco; exact Option.some.inj hco
  subst hCo
  subst hkd
  have hno : o ∈ Ls := h5 _ (List.mem_cons_of_mem _ List.mem_cons_self) o rfl
  have hnn : n ∈ Ls := h5 _ List.mem_cons_self n rfl
  obtain ⟨q, hq1, hq2⟩ := ws2_get (cy := cy) (ad := ad) (r := r) hno
  rw [ce2_o k6] at hq2
  refine va_putF hx hb hts k2 ty k3 k4 hown hK hP (h3.D cy r) hS q hq2 k1 j f1 (hts _ f5) (fun _ h => by rw [(u_T_own k1 j f1)] at h; exact h) f4 hin (u_T_own k1 j f1) (ty := tv) (v := .ref (ad n)) (by rw [k3 j f1, f3]) (hna _) (hfi _) (by unfold fs2; rw [List.length_map, List.length_range, ← k5]; exact f1) hd (fun H1 locs1 hP1 _ hS1 => ?_)
  rw [ws2_set h3.1 hq1 (by rw [ce2_o k6, fs2_rs f2]) (fun _ h => ce2_ne h)] at hP1
  exact k ad H1 locs1 ls h0 h1 (Cl_rs h2 hnn) h3 h4 (Li_tl (Li_tl h5)) hP1 hS1 hl
theorem dr_getR (hX : Gg X cc own nL fr mc ms) {idx ci j o n : Nat} {tv : FieldType} (hd : decode cc pc = .ok (.getfield idx, 3)) (hf : FP own idx ci j 3 tv true) (hkd : kd o = ci) (hr : r o j = some n) (k : JD X L0 Ls r kc ks (pc + 3) L (.ref n :: st)) : JD X L0 Ls r kc ks pc L (.ref o :: st) := by
  obtain ⟨p, l, e, R, s, m, args, below, meth, c, D, cy, ad0, A, sad, kc', ks', fin, qq⟩ := X
  obtain ⟨hx, hb, hml, hown, hts, hK, hA, hlk, hfr, hlo, hmc, hms, hB, hC, hN⟩ := hX
  intro ad H locs ls h0 h1 h2 h3 h4 h5 hP hS hl
  obtain ⟨C, T, N, ty, ⟨k1, k2, k3, k4, k5, k6⟩, f1, f2, f3, f4, f5⟩ := hf
  subst hkd
  have hno : o ∈ Ls := h5 _ List.mem_cons_self o rfl
  obtain ⟨q, hq1, hq2⟩ := ws2_get (cy := cy) (ad := ad) (r := r) hno
  rw [ce2_o k6] at hq2
  have hv : (fs2 ad r o)[j]? = some (.ref (ad n)) := by
    unfold fs2
    rw [List.getElem?_map, List.getElem?_range (by rw [← k5]; exact f1)]
    show some (sv2 ad r o j (ft (kd o) j)) = _
    unfold sv2
    rw [f2, hr]
    rfl
  exact va_get hx hb hts k2 hown hK hP q hq2 k1 j f1 (hts _ f5) (fun _ h => by rw [(u_T_own k1 j f1)] at h; exact h) hv hd (k ad H locs ls h0 h1 h2 h3 h4 (Li_r (h2 o hno j n hr) (Li_tl h5)) hP hS hl)
theorem dr_aastB (hX : Gg X cc own nL fr mc ms) {o n : Nat} {i : Int32} (hd : decode cc pc = .ok (.aastore, 1)) (hkd : kd o = 23) (hkn : kd n = 0) (hi : vp_in i (ln o)) (k : JD X L0 Ls (rs r o i.toNatClampNeg n) kc ks (pc + 1) L st) : JD X L0 Ls r kc ks pc L (.ref n :: .int i :: .ref o :: st) := by
  obtain ⟨p, l, e, R, s, m, args, below, meth, c, D, cy, ad0, A, sad, kc', ks', fin, qq⟩ := X
  obtain ⟨hx, hb, hml, hown, hts, hK, hA, hlk, hfr, hlo, hmc, hms, hB, hC, hN⟩ := hX
  intro ad H locs ls h0 h1 h2 h3 h4 h5 hP hS hl
  have hno : o ∈ Ls := h5 _ (List.mem_cons_of_mem _ (List.mem_cons_of_mem _ List.mem_cons_self)) o rfl
  have hnn : n ∈ Ls := h5 _ List.mem_cons_self n rfl
  obtain ⟨q, hq1, hq2⟩ := ws2_get (cy := cy) (ad := ad) (r := r) hno
  obtain ⟨q3, hq3, hq4⟩ := ws2_get (cy := cy) (ad := ad) (r := r) hnn
  have ho : ∀ r', ce2 cy ad r' o = .inl (cy 3, ln o, .inr (.inr (.inr (.inr (fun i => (r' o i).map ad))))) := fun r' => by unfold ce2; rw [hkd]; rfl
  rw [ho] at hq2
  rw [ce2_o (by omega)] at hq4
  refine va_astq hx hb hK hP (h3.D cy r) hS q 3 q3 0 (r := (RX0, TX0, 9)) hq2 rfl (by rw [hkn] at hq4; exact hq4) rfl hi hd (fun H1 locs1 hP1 _ hS1 => ?_)
  rw [ws2_set (r' := rs r o i.toNatClampNeg n) h3.1 hq1 (by
    rw [ho]
    congr 7
    funext j
    unfold rs va_up
    by_cases hj : j = i.toNatClampNeg
    · simp [hj]
    · simp [hj]) (fun _ h => ce2_ne h)] at hP1
  exact k ad H1 locs1 ls h0 h1 (Cl_rs h2 hnn) h3 h4 (Li_tl (Li_tl (Li_tl h5))) hP1 hS1 hl
theorem dr_aastC (hX : Gg X cc own nL fr mc ms) {o n : Nat} {i : Int32} (hd : decode cc pc = .ok (.aastore, 1)) (hkd : kd o = 24) (hkn : kd n = 1) (hi : vp_in i (ln o)) (k : JD X L0 Ls (rs r o i.toNatClampNeg n) kc ks (pc + 1) L st) : JD X L0 Ls r kc ks pc L (.ref n :: .int i :: .ref o :: st) := by
  obtain ⟨p, l, e, R, s, m, args, below, meth, c, D, cy, ad0, A, sad, kc', ks', fin, qq⟩ := X
  obtain ⟨hx, hb, hml, hown, hts, hK, hA, hlk, hfr, hlo, hmc, hms, hB, hC, hN⟩ := hX
  intro ad H locs ls h0 h1 h2 h3 h4 h5 hP hS hl
  have hno : o ∈ Ls := h5 _ (List.mem_cons_of_mem _ (List.mem_cons_of_mem _ List.mem_cons_self)) o rfl
  have hnn : n ∈ Ls := h5 _ List.mem_cons_self n rfl
  obtain ⟨q, hq1, hq2⟩ := ws2_get (cy := cy) (ad := ad) (r := r) hno
  obtain ⟨q3, hq3, hq4⟩ := ws2_get (cy := cy) (ad := ad) (r := r) hnn
  have ho : ∀ r', ce2 cy ad r' o = .inl (cy 4, ln o, .inr (.inr (.inr (.inr (fun i => (r' o i).map ad))))) := fun r' => by unfold ce2; rw [hkd]; rfl
  rw [ho] at hq2
  rw [ce2_o (by omega)] at hq4
  refine va_astq hx hb hK hP (h3.D cy r) hS q 4 q3 1 (r := (RX1, TX1, 11)) hq2 rfl (by rw [hkn] at hq4; exact hq4) rfl hi hd (fun H1 locs1 hP1 _ hS1 => ?_)
  rw [ws2_set (r' := rs r o i.toNatClampNeg n) h3.1 hq1 (by
    rw [ho]
    congr 7
    funext j
    unfold rs va_up
    by_cases hj : j = i.toNatClampNeg
    · simp [hj]
    · simp [hj]) (fun _ h => ce2_ne h)] at hP1
  exact k ad H1 locs1 ls h0 h1 (Cl_rs h2 hnn) h3 h4 (Li_tl (Li_tl (Li_tl h5))) hP1 hS1 hl
theorem dr_alen (hX : Gg X cc own nL fr mc ms) {o : Nat} (hd : decode cc pc = .ok (.arraylength, 1)) (hkd : kd o = 23) (k : JD X L0 Ls r kc ks (pc + 1) L (.int (Int32.ofNat (ln o)) :: st)) : JD X L0 Ls r kc ks pc L (.ref o :: st) := by
  obtain ⟨p, l, e, R, s, m, args, below, meth, c, D, cy, ad0, A, sad, kc', ks', fin, qq⟩ := X
  obtain ⟨hx, hb, hml, hown, hts, hK, hA, hlk, hfr, hlo, hmc, hms, hB, hC, hN⟩ := hX
  intro ad H locs ls h0 h1 h2 h3 h4 h5 hP hS hl
  have hno : o ∈ Ls := h5 _ List.mem_cons_self o rfl
  obtain ⟨q, hq1, hq2⟩ := ws2_get (cy := cy) (ad := ad) (r := r) hno
  have ho : ce2 cy ad r o = .inl (cy 3, ln o, .inr (.inr (.inr (.inr (fun i => (r o i).map ad))))) := by unfold ce2; rw [hkd]; rfl
  rw [ho] at hq2
  exact va_alen hx hb hK hP q 3 hq2 rfl rfl hd (k ad H locs ls h0 h1 h2 h3 h4 (Li_i (Li_tl h5)) hP hS hl)
/-- other words for the same references -/
theorem dr_r {r' : Nat → Nat → Option Nat} (h : ∀ o ∈ Ls, ∀ ad cy, ce2 cy ad r o = ce2 cy ad r' o) (hc : Cl r Ls → Cl r' Ls) (k : JD X L0 Ls r' kc ks pc L st) : JD X L0 Ls r kc ks pc L st := by
  obtain ⟨p, l, e, R, s, m, args, below, meth, c, D, cy, ad0, A, sad, kc', ks', fin, qq⟩ := X
  intro ad H locs ls h0 h1 h2 h3 h4 h5 hP hS hl
  refine k ad H locs ls h0 h1 (hc h2) h3 h4 h5 ?_ hS hl
  have : ws2 cy ad r Ls = ws2 cy ad r' Ls := List.map_congr_left (fun o ho => by rw [h o ho])
  rw [← this]
  exact hP
theorem dr_wid {kc2 ks2 : Nat} (h1 : kc ≤ kc2) (h2 : ks ≤ ks2) (k : JD X L0 Ls r kc2 ks2 pc L st) : JD X L0 Ls r kc ks pc L st := by
  obtain ⟨p, l, e, R, s, m, args, below, meth, c, D, cy, ad0, A, sad, kc', ks', fin, qq⟩ := X
  intro ad H locs ls g0 g1 g2 g3 g4 g5 hP hS hl
  exact W.widen h1 h2 (k ad H locs ls g0 g1 g2 g3 g4 g5 hP hS hl)
theorem dr_sub (q : List Nat) (hl : lv_pick L q = L') (k : JD X L0 Ls r kc ks pc L' st) : JD X L0 Ls r kc ks pc L st := by
  obtain ⟨p, l, e, R, s, m, args, below, meth, c, D, cy, ad0, A, sad, kc', ks', fin, qq⟩ := X
  intro ad H locs ls h0 h1 h2 h3 h4 h5 hP hS h
  have hsub : lv_pick (dL ad L) q = dL ad L' := by
    rw [← hl]
    unfold lv_pick dL
    rw [List.map_filterMap]
    congr 1
    funext k
    rw [List.getElem?_map]
  refine k ad H locs ls h0 h1 h2 h3 (fun x hx => ?_) h5 hP hS (lv_sub h q hsub)
  rw [← hl] at hx
  obtain ⟨k2, -, hk⟩ := List.mem_filterMap.mp hx
  exact h4 x (List.mem_of_getElem? hk)
end DROWS
/-! the contracts of the constructors -/
def rmI (fr mc ms : Nat) : Room := { frames := fr, cells := mc, slots := ms, locals := 64 * fr }
def PD (D : va_G) (cy : Nat → ClassId) (ad : Nat → Nat) (A : Nat → Prop) (Ls : List Nat) (r : Nat → Nat → Option Nat) (U : State) : Prop := va_P D vwCl (ws2 cy ad r Ls) U.heap ∧ va_K D vwCl (tys cy) U ∧ Ap2 A ad Ls ∧ Cl r Ls ∧ (∀ q, U.heap.size ≤ q → A q) ∧ va_AO RX0 U ∧ va_AO RX1 U ∧ ∀ k, k < 8 → va_Nw (nmw k) U
def QD (D : va_G) (cy : Nat → ClassId) (ad0 : Nat → Nat) (A : Nat → Prop) (L0 L1 : List Nat) (r1 : Nat → Nat → Option Nat) : Array Value → State → Outcome → State → Prop := fun _ st oc t =>
  oc = .returned none ∧ (∃ ad, (∀ o ∈ L0, ad o = ad0 o) ∧ va_P D vwCl (ws2 cy ad r1 L1) t.heap ∧ Ap2 A ad L1 ∧ Cl r1 L1 ∧ ∀ o ∈ L0, o ∈ L1) ∧ va_F A st t
def CtI (y : MethodName) (cc : ByteArray) (nL fr mc ms o : Nat) (L0 : List Nat) (r0 : Nat → Nat → Option Nat) (L1 : List Nat) (r1 : Nat → Nat → Option Nat) : Prop :=
  ∀ (l : Launch) (D : va_G) (cy : Nat → ClassId) (ad : Nat → Nat) (A : Nat → Prop), Met l y (Cond.code y cc nL none :: gt) (rmI fr mc ms) (va_Pc [.ref (ad o)] (PD D cy ad A L0 r0)) (QD D cy ad A L0 L1 r1) mc ms A
def GeD (X : Cx) (L0 L1 : List Nat) (r1 : Nat → Nat → Option Nat) (mc ms : Nat) : Prop :=
  match X with
  | (_, _, _, _, s, _, args, below, meth, _, D, cy, ad, A, _, _, _, _, qq) => meth.sig.returnType = none ∧ qq = MQ below (QD D cy ad A L0 L1 r1) args s mc ms A
theorem dr_ret {X : Cx} {L0 Ls : List Nat} {r : Nat → Nat → Option Nat} {pc : Nat} {L : List (Nat × Value)} {cc : ByteArray} {own : String} {nL fr mc ms : Nat} (hX : Gg X cc own nL fr mc ms) (hE : GeD X L0 Ls r mc ms) (hd : decode cc pc = .ok (.return_, 1)) : JD X L0 Ls r mc ms pc L [] := by
  obtain ⟨p, l, e, R, s, m, args, below, meth, c, D, cy, ad0, A, sad, kc', ks', fin, qq⟩ := X
  obtain ⟨hx, hb, hml, hown, hts, hK, hA, hlk, hfr, hlo, hmc, hms, hB, hC, hN⟩ := hX
  intro ad H locs ls h0 h1 h2 h3 h4 h5 hP hS hl
  obtain ⟨hr, hq⟩ := hE
  rw [hq]
  exact W.vret hx hb hr (fun t ht hW => ⟨rfl, ⟨ad, h1, by rw [ht]; exact hP, h3, h2, h0⟩, hS.F ht⟩) hS.2.2 hd hlk
theorem mk_cti {y : MethodName} {cc : ByteArray} {nL fr mc ms o : Nat} {L0 : List Nat} {r0 : Nat → Nat → Option Nat} {L1 : List Nat} {r1 : Nat → Nat → Option Nat} (ho : o ∈ L0) (hy : plainName y.cls = true) (hy1 : y.name = "<init>") (hlen : 1 ≤ nL)
    (body : ∀ X : Cx, Gg X cc y.cls nL fr mc ms → xin X → GeD X L0 L1 r1 mc ms → JD X L0 L0 r0 0 0 0 [(0, .ref o)] []) : CtI y cc nL fr mc ms o L0 r0 L1 r1 := by
  intro l D cy ad A
  refine Met.ofW (cc := cc) (maxL := nL) (ret := none) hy rfl ?_
  intro p e s mt args below meth c s₁ B hml hv
  obtain ⟨rfl, hP, hK, hA, hc, hsz, hB, hC, hN⟩ := hv
  have hts := atoms_spec (ws := Cond.code y cc nL none :: gt) B.pre
  have hown : s.vm.findClass y.cls = some mt.cls := findClass_of_methodNamed B.named
  have hin : meth.name = "<init>" := (name_of_methodNamed B.named B.method).1.trans hy1
  have hl := lv_entry ([.ref (ad o)]) (n := nL) hlen
  rw [lg_entry_eq]
  have h := body (p, l, e, rmI fr mc ms, s, mt, ([.ref (ad o)] : List Value).toArray, below, meth, c, D, cy, ad, A, ad, 0, 0, (none, mZ), MQ below (QD D cy ad A L0 L1 r1) ([.ref (ad o)] : List Value).toArray s mc ms A)
    ⟨B.exec, B.bytes, hml, hown, fun w hw => hts w (List.mem_cons_of_mem _ hw), hK, hsz, B.notSynchronized, Nat.le_refl _, Nat.le_refl _, Nat.le_refl _, Nat.le_refl _, hB, hC, hN⟩ hin ⟨B.returns, rfl⟩
  exact h ad s.heap [] _ (fun _ h => h) (fun _ _ => rfl) hc hA (fun q hq => by rw [List.mem_singleton] at hq; subst hq; intro o' h'; cases h'; exact ho) (fun v hv => by cases hv) hP va_S.rf (by rw [hml]; exact hl)
theorem PD.blind {D : va_G} {cy : Nat → ClassId} {ad : Nat → Nat} {A : Nat → Prop} {Ls : List Nat} {r : Nat → Nat → Option Nat} {av : List Value} : FrameBlind (va_Pc av (PD D cy ad A Ls r)) := by
  intro a U g mk h
  obtain ⟨h1, h2, h3, h4, h5, h6, h7, h8, h9⟩ := h
  exact ⟨h1, h2, va_K.moved (u := U) (U := U.calling g mk a) (Vm.Alike.refl U.vm) h3, h4, h5, h6, h7.moved (Vm.Alike.refl U.vm), h8.moved (Vm.Alike.refl U.vm), fun k hk => va_Nw.same (u := U) (U := U.calling g mk a) (nmw_on hk) rfl (h9 k hk)⟩
theorem callD {p : Program} {l : Launch} {e : Env} {R : Room} {s : State} {m : MethodId} {args : Array Value} {below : List Frame} {meth : Method} {c : Code} {H : Heap} {locs : List Loc} {cells slots mc ms : Nat} {Q : State → Prop} {pc : Nat} {ls : Array Slot} {rest st0 : List Value} {a : Array Value} {D : va_G} {cy : Nat → ClassId} {ad : Nat → Nat} {A : Nat → Prop} {L0 L1 : List Nat} {r1 : Nat → Nat → Option Nat} (hr : va_Run p l e R s m args below meth c H locs cells slots mc ms (F0 m pc ls st0) rest (QD D cy ad A L0 L1 r1 a) A) (hS : va_S A s.heap H locs)
    (kk : ∀ (ad' : Nat → Nat) (H1 : Heap) (locs1 : List Loc), (∀ o ∈ L0, ad' o = ad o) → va_P D vwCl (ws2 cy ad' r1 L1) H1 → Ap2 A ad' L1 → Cl r1 L1 → (∀ o ∈ L0, o ∈ L1) → va_S A s.heap H1 locs1 → W p l e R s m args below meth c H1 locs1 (cells + mc) (slots + ms) Q (F0 m (pc + 3) ls rest)) : W p l e R s m args below meth c H locs cells slots Q (F0 m pc ls st0) := by
  intro T hT X
  obtain ⟨v, st₀, t, T', L, h0, X', hL, e1, e2, ⟨hv, ⟨ad', b1, b2, b3, b4, b5⟩, hz, hk⟩, st⟩ := hr T hT X
  cases hv
  rw [h0] at hz hk
  obtain ⟨t2, a1, b1⟩ := kk ad' T'.heap (locs ++ L) b1 (by rw [e1]; exact b2) b3 b4 b5
    ⟨Nat.le_trans hS.1 (by rw [e1]; exact hz), fun q h1 h2 => by rw [e1, hk q (Nat.lt_of_lt_of_le h1 hS.1) h2]; exact hS.2.1 q h1 h2, fun q hq => by
      rcases List.mem_append.mp hq with h | h
      · exact hS.2.2 q h
      · exact hL q h⟩ T' rfl X'
  exact ⟨t2, st t2 a1, b1⟩
section DCALL
variable {X : Cx} {L0 Ls L1 : List Nat} {r r1 : Nat → Nat → Option Nat} {kc ks pc : Nat} {L : List (Nat × Value)} {st : List Value} {cc : ByteArray} {own : String} {nL fr mc ms : Nat} {y : MethodName} {cy' : ByteArray} {nLy idx n fy mc2 ms2 : Nat}
theorem dr_callI (hX : Gg X cc own nL fr mc ms) (hd : decode cc pc = .ok (.invokespecial idx, 3)) (hM : MI y cy' nLy none 0) (hyn : y.name = "<init>") (hV : Cond.instanceMethod y ∈ gt) (hw : Cond.methodLink own idx y ∈ gt) (hct : CtI y cy' nLy fy mc2 ms2 n Ls r L1 r1) (hcat : (st.map fun v => v.category).sum ≤ 8) (hf : fy < fr) (hk1 : kc + mc2 ≤ mc) (hk3 : ks + ms2 ≤ ms) (k : JD X L0 L1 r1 (kc + mc2) (ks + ms2) (pc + 3) L st) : JD X L0 Ls r kc ks pc L (.ref n :: st) := by
  obtain ⟨p, l, e, R, s, m, args, below, meth, c, D, cy, ad0, A, sad, kc', ks', fin, qq⟩ := X
  obtain ⟨hx, hb, hml, hown, hts, hK, hA, hlk, hfr, hlo, hmc, hms, hB, hC, hN⟩ := hX
  intro ad H locs ls h0 h1 h2 h3 h4 h5 hP hS hl
  obtain ⟨m1, m2, m3, m4⟩ := hM
  have hcat2 : ((st.map (dv ad)).map fun v => v.category).sum ≤ 8 := by
    rw [List.map_map]
    rw [show (st.map ((fun v => v.category) ∘ dv ad)) = st.map (fun v => v.category) from List.map_congr_left (fun v _ => dv_cat)]
    exact hcat
  have hR : fy + 1 ≤ R.frames ∧ 8 + (nLy + 11) + 64 * fy ≤ R.locals := ⟨by omega, by omega⟩
  have hrun := va_runI (As := []) (rest := st.map (dv ad)) (n := 0) ⟨hx, hb, hml, hown, hts⟩ (hct l D cy ad A) (cwI 0 hts (gd_y m1) rfl rfl rfl (hts _ m2) (hts _ hw) (hts _ hV) hyn m3 hR) ⟨PD.blind, fun U hU hW => ⟨rfl, by rw [hU]; exact hP, va_K.moved hW.alike hK, h3, h2, fun q hq => hA q (Nat.le_trans hS.1 (by rw [hU] at hq; exact hq)), hB.moved hW.alike, hC.moved hW.alike, fun k hk => nmw_warm hk hW (hN k hk)⟩⟩ (g := F0 m pc ls ((.ref n :: st).map (dv ad))) (H := H) (locs := locs) (cells := kc) (slots := ks) (below := below) (meth := meth) (e := e) rfl rfl (hl.1.trans hml) rfl (lv_room hcat2) hd ⟨by omega, by omega⟩
  exact callD hrun hS (fun ad' H1 locs1 a1 a2 a3 a4 a5 a6 => by
    have hk2 := k ad' H1 locs1 ls (fun o ho => a5 o (h0 o ho)) (fun o ho => (a1 o (h0 o ho)).trans (h1 o ho)) a4 a3 (fun q hq o ho => a5 o (h4 q hq o ho)) (fun v hv o ho => a5 o ((Li_tl h5) v hv o ho)) a2 a6 (by rw [dL_up a1 h4]; exact hl)
    rw [dvs_up a1 (Li_tl h5)] at hk2
    exact hk2)
theorem dr_callN (hX : Gg X cc own nL fr mc ms) (hd : decode cc pc = .ok (.invokespecial idx, 3)) (hM : MI y cy' nLy none 0) (hyn : y.name = "<init>") (hV : Cond.instanceMethod y ∈ gt) (q : Nat) (hq8 : q < 8) (hw : nmw q = Cond.methodLinkNest own idx y "NameChart") (hct : CtI y cy' nLy fy mc2 ms2 n Ls r L1 r1) (hcat : (st.map fun v => v.category).sum ≤ 8) (hf : fy < fr) (hk1 : kc + mc2 ≤ mc) (hk3 : ks + ms2 ≤ ms) (k : JD X L0 L1 r1 (kc + mc2) (ks + ms2) (pc + 3) L st) : JD X L0 Ls r kc ks pc L (.ref n :: st) := by
  obtain ⟨p, l, e, R, s, m, args, below, meth, c, D, cy, ad0, A, sad, kc', ks', fin, qq⟩ := X
  obtain ⟨hx, hb, hml, hown, hts, hK, hA, hlk, hfr, hlo, hmc, hms, hB, hC, hN⟩ := hX
  intro ad H locs ls h0 h1 h2 h3 h4 h5 hP hS hl
  obtain ⟨m1, m2, m3, m4⟩ := hM
  have hcat2 : ((st.map (dv ad)).map fun v => v.category).sum ≤ 8 := by
    rw [List.map_map]
    rw [show (st.map ((fun v => v.category) ∘ dv ad)) = st.map (fun v => v.category) from List.map_congr_left (fun v _ => dv_cat)]
    exact hcat
  have hR : fy + 1 ≤ R.frames ∧ 8 + (nLy + 11) + 64 * fy ≤ R.locals := ⟨by omega, by omega⟩
  have hrun := va_runIN (As := []) (rest := st.map (dv ad)) (n := 0) ⟨hx, hb, hml, hown, hts⟩ (hct l D cy ad A) ⟨va_cnB 0 hts (gd_y m1) rfl rfl rfl (hw ▸ hN q hq8) (hts _ m2) m3 hR, hyn, hts _ hV⟩ ⟨PD.blind, fun U hU hW => ⟨rfl, by rw [hU]; exact hP, va_K.moved hW.alike hK, h3, h2, fun q hq => hA q (Nat.le_trans hS.1 (by rw [hU] at hq; exact hq)), hB.moved hW.alike, hC.moved hW.alike, fun k hk => nmw_warm hk hW (hN k hk)⟩⟩ (g := F0 m pc ls ((.ref n :: st).map (dv ad))) (H := H) (locs := locs) (cells := kc) (slots := ks) (below := below) (meth := meth) (e := e) rfl rfl (hl.1.trans hml) rfl (lv_room hcat2) hd ⟨by omega, by omega⟩
  exact callD hrun hS (fun ad' H1 locs1 a1 a2 a3 a4 a5 a6 => by
    have hk2 := k ad' H1 locs1 ls (fun o ho => a5 o (h0 o ho)) (fun o ho => (a1 o (h0 o ho)).trans (h1 o ho)) a4 a3 (fun q hq o ho => a5 o (h4 q hq o ho)) (fun v hv o ho => a5 o ((Li_tl h5) v hv o ho)) a2 a6 (by rw [dL_up a1 h4]; exact hl)
    rw [dvs_up a1 (Li_tl h5)] at hk2
    exact hk2)
end DCALL
