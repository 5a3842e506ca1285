theorem tw (i : Nat) {w : Cond} (h : tables_1[i]? = some w) (hg : gtw w = true) : w ∈ gt := gt_in (List.mem_append_right _ (List.mem_of_getElem? h)) hg
theorem tp (i : Nat) {y : MethodName} (h : (lw_privs[i]?).map (fun q => q.1) = some y) : Cond.selects y.cls y y ∈ gt := by
  cases hq : lw_privs[i]? with
  | none => rw [hq] at h; cases h
  | some q =>
    rw [hq] at h
    cases h
    exact gt_in (List.mem_append_left _ (List.mem_map.mpr ⟨q, List.mem_of_getElem? hq, rfl⟩)) rfl
def fx {κ : Type} (B : κ → κ) (z : κ) : Nat → κ
  | 0 => z
  | n + 1 => B (fx B z n)
theorem fx_ind {κ : Type} {B : κ → κ} {z : κ} (P : κ → Prop) (h0 : P z) (hs : ∀ f, P f → P (B f)) : ∀ n, P (fx B z n) := by
  intro n
  induction n with
  | zero => exact h0
  | succ n ih => exact hs _ ih
def FU : Nat := 4000
def ac {ρ : Type} (m : Me) (o1 : Nat) (sp : Int32) (o2 : Nat) (dp n : Int32) (K : Me → Option ρ) : Option ρ := if sp < 0 ∨ dp < 0 ∨ n < 0 ∨ ln o1 < sp.toNatClampNeg + n.toNatClampNeg ∨ ln o2 < dp.toNatClampNeg + n.toNatClampNeg then none else K (sr m o2 (va_cpy (m.1 o1) (m.1 o2) sp.toNatClampNeg dp.toNatClampNeg n.toNatClampNeg))
theorem chart_no {c : Nat} (h : kd c = 1) : c = 10 ∨ c = 20 ∨ c = 30 ∨ c = 40 ∨ c = 50 ∨ c = 60 ∨ c = 70 ∨ c = 80 ∨ c = 90 := by
  have hl : c < 1388 := by
    rcases Nat.lt_or_ge c 1388 with q | q
    · exact q
    · exfalso
      revert h
      unfold kd
      rw [if_neg (by omega), if_neg (by omega), if_neg (by omega), if_neg (by omega), if_neg (by omega), if_neg (by omega), if_neg (by omega)]
      decide
  have key : ∀ c, c < 1388 → kd c = 1 → c = 10 ∨ c = 20 ∨ c = 30 ∨ c = 40 ∨ c = 50 ∨ c = 60 ∨ c = 70 ∨ c = 80 ∨ c = 90 := by decide +kernel
  exact key c hl h
theorem kdB {j : Nat} (h : j < ln 4) : kd (1000 + j) = 0 := by
  have h : j < 384 := h
  unfold kd
  rw [if_neg (by omega), if_neg (by omega), if_neg (by omega), if_neg (by omega), if_neg (by omega), if_neg (by omega), if_pos (by omega)]
theorem kdR {j : Nat} (h : j < ln 2) : kd (20 + 10 * j) = 1 := by
  have h : j < 8 := h
  rcases (show j = 0 ∨ j = 1 ∨ j = 2 ∨ j = 3 ∨ j = 4 ∨ j = 5 ∨ j = 6 ∨ j = 7 by omega) with rfl | rfl | rfl | rfl | rfl | rfl | rfl | rfl <;> rfl
theorem rfC2 {c : Nat} (h : kd c = 1) : rf c 2 = some (c + 1) := by
  rcases chart_no h with rfl | rfl | rfl | rfl | rfl | rfl | rfl | rfl | rfl <;> rfl
theorem kdC1 {c : Nat} (h : kd c = 1) : kd (c + 1) = 20 := by
  rcases chart_no h with rfl | rfl | rfl | rfl | rfl | rfl | rfl | rfl | rfl <;> rfl
theorem rfC3 {c : Nat} (h : kd c = 1) : rf c 3 = some (c + 2) := by
  rcases chart_no h with rfl | rfl | rfl | rfl | rfl | rfl | rfl | rfl | rfl <;> rfl
theorem kdC2 {c : Nat} (h : kd c = 1) : kd (c + 2) = 20 := by
  rcases chart_no h with rfl | rfl | rfl | rfl | rfl | rfl | rfl | rfl | rfl <;> rfl
theorem rfC4 {c : Nat} (h : kd c = 1) : rf c 4 = some (c + 3) := by
  rcases chart_no h with rfl | rfl | rfl | rfl | rfl | rfl | rfl | rfl | rfl <;> rfl
theorem kdC3 {c : Nat} (h : kd c = 1) : kd (c + 3) = 20 := by
  rcases chart_no h with rfl | rfl | rfl | rfl | rfl | rfl | rfl | rfl | rfl <;> rfl
theorem rfC5 {c : Nat} (h : kd c = 1) : rf c 5 = some (c + 4) := by
  rcases chart_no h with rfl | rfl | rfl | rfl | rfl | rfl | rfl | rfl | rfl <;> rfl
theorem kdC4 {c : Nat} (h : kd c = 1) : kd (c + 4) = 20 := by
  rcases chart_no h with rfl | rfl | rfl | rfl | rfl | rfl | rfl | rfl | rfl <;> rfl
theorem rfC6 {c : Nat} (h : kd c = 1) : rf c 6 = some (c + 5) := by
  rcases chart_no h with rfl | rfl | rfl | rfl | rfl | rfl | rfl | rfl | rfl <;> rfl
theorem kdC5 {c : Nat} (h : kd c = 1) : kd (c + 5) = 20 := by
  rcases chart_no h with rfl | rfl | rfl | rfl | rfl | rfl | rfl | rfl | rfl <;> rfl
theorem rfC7 {c : Nat} (h : kd c = 1) : rf c 7 = some (c + 6) := by
  rcases chart_no h with rfl | rfl | rfl | rfl | rfl | rfl | rfl | rfl | rfl <;> rfl
theorem kdC6 {c : Nat} (h : kd c = 1) : kd (c + 6) = 20 := by
  rcases chart_no h with rfl | rfl | rfl | rfl | rfl | rfl | rfl | rfl | rfl <;> rfl
theorem rfC8 {c : Nat} (h : kd c = 1) : rf c 8 = some (c + 7) := by
  rcases chart_no h with rfl | rfl | rfl | rfl | rfl | rfl | rfl | rfl | rfl <;> rfl
theorem kdC7 {c : Nat} (h : kd c = 1) : kd (c + 7) = 20 := by
  rcases chart_no h with rfl | rfl | rfl | rfl | rfl | rfl | rfl | rfl | rfl <;> rfl
theorem rfC9 {c : Nat} (h : kd c = 1) : rf c 9 = some (c + 8) := by
  rcases chart_no h with rfl | rfl | rfl | rfl | rfl | rfl | rfl | rfl | rfl <;> rfl
theorem kdC8 {c : Nat} (h : kd c = 1) : kd (c + 8) = 20 := by
  rcases chart_no h with rfl | rfl | rfl | rfl | rfl | rfl | rfl | rfl | rfl <;> rfl
theorem rfC10 {c : Nat} (h : kd c = 1) : rf c 10 = some (c + 9) := by
  rcases chart_no h with rfl | rfl | rfl | rfl | rfl | rfl | rfl | rfl | rfl <;> rfl
theorem kdC9 {c : Nat} (h : kd c = 1) : kd (c + 9) = 20 := by
  rcases chart_no h with rfl | rfl | rfl | rfl | rfl | rfl | rfl | rfl | rfl <;> rfl
theorem sw_def {x : Int32} {n : Nat} (hn : n < 2 ^ 30) (h : ∀ k, k ≤ n → ¬ x = nI k) : x.toInt < 0 ∨ (n : Int) < x.toInt := by
  rcases pk_ix x (n := n + 1) (by omega) with q | q | ⟨j, h1, h2⟩
  · exact Or.inl (by have := Int32.lt_iff_toInt_lt.mp q; simpa using this)
  · have h2 := Int32.le_iff_toInt_le.mp q
    rw [nI_toInt (by omega)] at h2
    exact Or.inr (by omega)
  · exact absurd h2 (h j (by omega))
theorem KC0 : KC 0 RX0 TX0 9 tyX0 := ⟨rfl, gt_sub (by decide +kernel), tyX0_ok, nmX0, by decide, by decide⟩
theorem KC1 : KC 1 RX1 TX1 11 tyX1 := ⟨rfl, gt_sub (by decide +kernel), tyX1_ok, nmX1, by decide, by decide⟩
theorem KC2 : KC 2 RX2 TX2 3 tyX2 := ⟨rfl, gt_sub (by decide +kernel), tyX2_ok, nmX2, by decide, by decide⟩
theorem KC3 : KC 3 RX3 TX3 3 tyX3 := ⟨rfl, gt_sub (by decide +kernel), tyX3_ok, nmX3, by decide, by decide⟩
theorem KC4 : KC 4 RX4 TX4 5 tyX4 := ⟨rfl, gt_sub (by decide +kernel), tyX4_ok, nmX4, by decide, by decide⟩
theorem KC5 : KC 5 RX5 TX5 6 tyX5 := ⟨rfl, gt_sub (by decide +kernel), tyX5_ok, nmX5, by decide, by decide⟩
theorem KC6 : KC 6 RX6 TX6 10 tyX6 := ⟨rfl, gt_sub (by decide +kernel), tyX6_ok, nmX6, by decide, by decide⟩
theorem KC7 : KC 7 RX7 TX7 10 tyX7 := ⟨rfl, gt_sub (by decide +kernel), tyX7_ok, nmX7, by decide, by decide⟩
theorem KC8 : KC 8 RX8 TX8 38 tyX8 := ⟨rfl, gt_sub (by decide +kernel), tyX8_ok, nmX8, by decide, by decide⟩
theorem acp_n : Cond.native arraycopyName ∈ gt := gt_in (by decide +kernel) rfl
theorem acp_s : Cond.static arraycopyName ∈ gt := gt_in (by decide +kernel) rfl
theorem acp_i : Cond.initialized "java/lang/System" ∈ gt := gt_in (by decide +kernel) rfl
def mx (x y : Int32) : Int32 := if x < y then y else x
def mn (x y : Int32) : Int32 := if y < x then y else x
def mb (x : Int32) : Int32 := if 0 ≤ x then x else 0 - x
theorem math_i : Cond.initialized "java/lang/Math" ∈ gt := gt_in (by decide +kernel) rfl
theorem math_s_max : Cond.static Lib.Math.max.name ∈ gt := gt_in (by decide +kernel) rfl
theorem math_c_max : Cond.code Lib.Math.max.name Lib.Math.max.code 2 (some .int) ∈ gt := gt_in (by decide +kernel) rfl
theorem math_s_min : Cond.static Lib.Math.min.name ∈ gt := gt_in (by decide +kernel) rfl
theorem math_c_min : Cond.code Lib.Math.min.name Lib.Math.min.code 2 (some .int) ∈ gt := gt_in (by decide +kernel) rfl
theorem math_s_abs : Cond.static Lib.Math.abs.name ∈ gt := gt_in (by decide +kernel) rfl
theorem math_c_abs : Cond.code Lib.Math.abs.name Lib.Math.abs.code 1 (some .int) ∈ gt := gt_in (by decide +kernel) rfl
section ROWS3
variable {ρ : Type} {X : Cx} {ov : ρ → Option Value × Me} {F : Option ρ} {mm : Me} {pc : Nat} {L : List (Nat × Value)} {st stk : List Value} {cc : ByteArray} {own : String} {nL fr : Nat}
theorem r_nmI {x : Int32} {T : Int32 → Option ρ} (k : ∀ v, J X ov (T v) mm pc L (.int v :: st)) : J X ov (bd x T) mm pc L (.int x :: st) := k x
theorem r_nmL {x : Int64} {T : Int64 → Option ρ} (k : ∀ v, J X ov (T v) mm pc L (.long v :: st)) : J X ov (bd x T) mm pc L (.long x :: st) := k x
theorem r_iincN {L' : Int32 → List (Nat × Value)} (hX : Gd X cc own nL fr) {i : Nat} {n : Int} {x e' : Int32} {K : Int32 → Option ρ} (q : Nat) (hd : decode cc pc = .ok (.iinc i n, 3)) (hq : L[q]? = some (i, .int x)) (hv : x + Int32.ofInt n = e') (hn : i < nL) (hL : ∀ w, (i, Value.int w) :: L.filter (fun q => !(q.1 == i) && !(q.1 + 1 == i && q.2.category == 2)) = L' w) (k : ∀ v, J X ov (K v) mm (pc + 3) (L' v) st) : J X ov (bd e' K) mm pc L st := by
  obtain ⟨p, l, e, R, s, m, args, below, meth, c, D, cy, ad, A, sad, kc, ks, fin, qq⟩ := X
  obtain ⟨hx, hb, hml, hown, hts, hK, hA, hSt, hlk, hfr, hlo, hkc, hks⟩ := hX
  intro res hF ho H locs ls hP hS hl
  refine lv_iinc hx hb hd hl hq hv (by rw [hml]; exact hn) (hL e') (fun ls hl => ?_)
  exact k e' res hF ho H locs ls hP hS hl
theorem r_aldB (hX : Gd X cc own nL fr) {i : Int32} {K : Nat → Option ρ} (hd : decode cc pc = .ok (.aaload, 1)) (k : ∀ b, kd b = 0 → J X ov (K b) mm (pc + 1) L (rX X b :: st)) : J X ov (rd (ln 4) i (fun j => 1000 + j) K) mm pc L (.int i :: rX X 4 :: st) := by
  obtain ⟨p, l, e, R, s, m, args, below, meth, c, D, cy, ad, A, sad, kc, ks, fin, qq⟩ := X
  obtain ⟨hx, hb, hml, hown, hts, hK, hA, hSt, hlk, hfr, hlo, hkc, hks⟩ := hX
  intro res hF ho H locs ls hP hS hl
  unfold rd at hF
  by_cases hi : i < 0 ∨ ln 4 ≤ i.toNatClampNeg
  case pos => rw [if_pos hi] at hF; cases hF
  rw [if_neg hi] at hF
  obtain ⟨q, hq1, hq2⟩ := ws_get (cy := cy) (ad := ad) (m := mm) (o := 4) (by decide)
  rw [cel_b (by decide)] at hq2
  have hj : i.toNatClampNeg < ln 4 := by omega
  have h2 := k _ (kdB hj) res hF ho H locs ls hP hS hl
  exact va_aldq hx hb hK hP q 3 hq2 rfl hi hd h2
theorem r_aldC (hX : Gd X cc own nL fr) {i : Int32} {K : Nat → Option ρ} (hd : decode cc pc = .ok (.aaload, 1)) (k : ∀ b, kd b = 1 → J X ov (K b) mm (pc + 1) L (rX X b :: st)) : J X ov (rd (ln 2) i (fun j => 20 + 10 * j) K) mm pc L (.int i :: rX X 2 :: st) := by
  obtain ⟨p, l, e, R, s, m, args, below, meth, c, D, cy, ad, A, sad, kc, ks, fin, qq⟩ := X
  obtain ⟨hx, hb, hml, hown, hts, hK, hA, hSt, hlk, hfr, hlo, hkc, hks⟩ := hX
  intro res hF ho H locs ls hP hS hl
  unfold rd at hF
  by_cases hi : i < 0 ∨ ln 2 ≤ i.toNatClampNeg
  case pos => rw [if_pos hi] at hF; cases hF
  rw [if_neg hi] at hF
  obtain ⟨q, hq1, hq2⟩ := ws_get (cy := cy) (ad := ad) (m := mm) (o := 2) (by decide)
  rw [cel_c (by decide)] at hq2
  have hj : i.toNatClampNeg < ln 2 := by omega
  have h2 := k _ (kdR hj) res hF ho H locs ls hP hS hl
  exact va_aldq hx hb hK hP q 4 hq2 rfl hi hd h2
theorem r_acp (hX : Gd X cc own nL fr) {idx o1 o2 : Nat} {sp dp n : Int32} {K : Me → Option ρ} (hd : decode cc pc = .ok (.invokestatic idx, 3)) (hw : Cond.methodLink own idx arraycopyName ∈ gt) (h1 : kd o1 = 20) (h2 : kd o2 = 20) (hcat : (st.map fun v => v.category).sum ≤ 8) (h3 : 1 ≤ fr) (k : ∀ m', J X ov (K m') m' (pc + 3) L st) : J X ov (ac mm o1 sp o2 dp n K) mm pc L (.int n :: .int dp :: rX X o2 :: .int sp :: rX X o1 :: st) := by
  obtain ⟨p, l, e, R, s, m, args, below, meth, c, D, cy, ad, A, sad, kc, ks, fin, qq⟩ := X
  obtain ⟨hx, hb, hml, hown, hts, hK, hA, hSt, hlk, hfr, hlo, hkc, hks⟩ := hX
  intro res hF ho H locs ls hP hS hl
  unfold ac at hF
  by_cases hi : sp < 0 ∨ dp < 0 ∨ n < 0 ∨ ln o1 < sp.toNatClampNeg + n.toNatClampNeg ∨ ln o2 < dp.toNatClampNeg + n.toNatClampNeg
  case pos => rw [if_pos hi] at hF; cases hF
  rw [if_neg hi] at hF
  obtain ⟨q1, hq1, hq2⟩ := ws_get (cy := cy) (ad := ad) (m := mm) (o := o1) (by omega)
  rw [cel_i h1] at hq2
  obtain ⟨q3, hq3, hq4⟩ := ws_get (cy := cy) (ad := ad) (m := mm) (o := o2) (by omega)
  rw [cel_i h2] at hq4
  refine va_copyi hx hb (hl.1.symm) hown (hts _ hw) (hts _ acp_n) (hts _ acp_s) (hts _ acp_i) hK hP (hA.D cy mm) hS q1 q3 0 0 hq2 hq4 rfl rfl rfl (fun z => hi (Or.inl z)) (fun z => hi (Or.inr (Or.inl z))) (fun z => hi (Or.inr (Or.inr (Or.inl z)))) (by omega) (by omega) (fun _ _ => rfl) (by omega) ?_ hd (fun H1 locs1 hP1 _ hS1 => ?_)
  · have : nativeFrameWords "java/lang/System" "arraycopy" 5 + 11 ≤ 56 := by decide +kernel
    omega
  · rw [ws_set (m := mm) (m' := sr mm o2 (va_cpy (mm.1 o1) (mm.1 o2) sp.toNatClampNeg dp.toNatClampNeg n.toNatClampNeg)) hq3 (by rw [cel_i h2]; unfold sr; simp) (fun _ h => cel_eq (sr_ne h) rfl)] at hP1
    exact k _ res hF ho H1 locs1 ls hP1 hS1 hl
theorem r_zretIk (hX : Gd X cc own nL fr) (hE : Ge X (some .boolean)) {v : Int32} (hd : decode cc pc = .ok (.ireturn, 1)) (hz : v = 0 ∨ v = 1) : J X oI (some (v, mm)) mm pc L [.int v] := by
  obtain ⟨p, l, e, R, s, m, args, below, meth, c, D, cy, ad, A, sad, kc, ks, fin, qq⟩ := X
  obtain ⟨hx, hb, hml, hown, hts, hK, hA, hSt, hlk, hfr, hlo, hkc, hks⟩ := hX
  intro res hF ho H locs ls hP hS hl
  obtain ⟨hr, hq⟩ := hE
  cases hF
  subst ho
  rw [hq]
  refine W.zret hx hb hr (by rcases hz with rfl | rfl <;> rfl) (fun t ht hW => ?_) hS.2.2 hd hlk
  exact ⟨rfl, by rw [ht]; exact hP, va_K.moved hW.alike hK, hS.F ht⟩
theorem r_zretPk (hX : Gd X cc own nL fr) (hE : Ge X (some .boolean)) {v : Int32} (hd : decode cc pc = .ok (.ireturn, 1)) (hz : v = 0 ∨ v = 1) : J X (oP mm) (some v) mm pc L [.int v] := by
  obtain ⟨p, l, e, R, s, m, args, below, meth, c, D, cy, ad, A, sad, kc, ks, fin, qq⟩ := X
  obtain ⟨hx, hb, hml, hown, hts, hK, hA, hSt, hlk, hfr, hlo, hkc, hks⟩ := hX
  intro res hF ho H locs ls hP hS hl
  obtain ⟨hr, hq⟩ := hE
  cases hF
  subst ho
  rw [hq]
  refine W.zret hx hb hr (by rcases hz with rfl | rfl <;> rfl) (fun t ht hW => ?_) hS.2.2 hd hlk
  exact ⟨rfl, by rw [ht]; exact hP, va_K.moved hW.alike hK, hS.F ht⟩
variable {y : MethodName} {cy : ByteArray} {nLy idx n ci o fy : Nat} {ret : Option FieldType} {As : (Nat → Nat) → List Value}
theorem r_cvP {f : Option Int32} {K : Int32 → Option ρ} (hX : Gd X cc own nL fr) (hd : decode cc pc = .ok (.invokevirtual idx, 3)) (hM : MI y cy nLy ret n) (hV : MV y ci) (hw : Cond.methodLink own idx y ∈ gt) (h9 : kd o = ci) (hct : ∀ (r : Int32), f = some r → Ct y cy nLy ret fy (fun ad => .ref (ad o) :: As ad) mm (fun _ => (some (.int r), mm))) (hn : (As (xad X)).length = n) (hst : stk = (As (xad X)).reverse ++ rX X o :: st) (hcat : (st.map fun v => v.category).sum ≤ 8) (hf : fy < fr) (k : ∀ r, J X ov (K r) mm (pc + 3) L (.int r :: st)) : J X ov (cP f K) mm pc L stk :=
  r_cP (fun r h => r_callV hX hd hM hV hw h9 (hct r h) hn hst hcat hf (k r))
theorem r_cvL {f : Option Int64} {K : Int64 → Option ρ} (hX : Gd X cc own nL fr) (hd : decode cc pc = .ok (.invokevirtual idx, 3)) (hM : MI y cy nLy ret n) (hV : MV y ci) (hw : Cond.methodLink own idx y ∈ gt) (h9 : kd o = ci) (hct : ∀ (r : Int64), f = some r → Ct y cy nLy ret fy (fun ad => .ref (ad o) :: As ad) mm (fun _ => (some (.long r), mm))) (hn : (As (xad X)).length = n) (hst : stk = (As (xad X)).reverse ++ rX X o :: st) (hcat : (st.map fun v => v.category).sum ≤ 8) (hf : fy < fr) (k : ∀ r, J X ov (K r) mm (pc + 3) L (.long r :: st)) : J X ov (cP f K) mm pc L stk :=
  r_cP (fun r h => r_callV hX hd hM hV hw h9 (hct r h) hn hst hcat hf (k r))
theorem r_cvR {f : Option Nat} {K : Nat → Option ρ} (hX : Gd X cc own nL fr) (hd : decode cc pc = .ok (.invokevirtual idx, 3)) (hM : MI y cy nLy ret n) (hV : MV y ci) (hw : Cond.methodLink own idx y ∈ gt) (h9 : kd o = ci) (hct : ∀ (r : Nat), f = some r → Ct y cy nLy ret fy (fun ad => .ref (ad o) :: As ad) mm (fun ad => (some (.ref (ad r)), mm))) (hn : (As (xad X)).length = n) (hst : stk = (As (xad X)).reverse ++ rX X o :: st) (hcat : (st.map fun v => v.category).sum ≤ 8) (hf : fy < fr) (k : ∀ r, f = some r → J X ov (K r) mm (pc + 3) L (rX X r :: st)) : J X ov (cP f K) mm pc L stk :=
  r_cP (fun r h => r_callV hX hd hM hV hw h9 (hct r h) hn hst hcat hf (k r h))
theorem r_cvV {f : Option Me} {K : Me → Option ρ} (hX : Gd X cc own nL fr) (hd : decode cc pc = .ok (.invokevirtual idx, 3)) (hM : MI y cy nLy ret n) (hV : MV y ci) (hw : Cond.methodLink own idx y ∈ gt) (h9 : kd o = ci) (hct : ∀ (r : Me), f = some r → Ct y cy nLy ret fy (fun ad => .ref (ad o) :: As ad) mm (fun _ => (none, r))) (hn : (As (xad X)).length = n) (hst : stk = (As (xad X)).reverse ++ rX X o :: st) (hcat : (st.map fun v => v.category).sum ≤ 8) (hf : fy < fr) (k : ∀ r, J X ov (K r) r (pc + 3) L st) : J X ov (cP f K) mm pc L stk :=
  r_cP (fun r h => r_callV hX hd hM hV hw h9 (hct r h) hn hst hcat hf (k r))
theorem r_cvI {f : Option (Int32 × Me)} {K : Int32 → Me → Option ρ} (hX : Gd X cc own nL fr) (hd : decode cc pc = .ok (.invokevirtual idx, 3)) (hM : MI y cy nLy ret n) (hV : MV y ci) (hw : Cond.methodLink own idx y ∈ gt) (h9 : kd o = ci) (hct : ∀ (r : Int32) (m' : Me), f = some (r, m') → Ct y cy nLy ret fy (fun ad => .ref (ad o) :: As ad) mm (fun _ => (some (.int r), m'))) (hn : (As (xad X)).length = n) (hst : stk = (As (xad X)).reverse ++ rX X o :: st) (hcat : (st.map fun v => v.category).sum ≤ 8) (hf : fy < fr) (k : ∀ r m', J X ov (K r m') m' (pc + 3) L (.int r :: st)) : J X ov (cI f K) mm pc L stk :=
  r_cI (fun r m' h => r_callV hX hd hM hV hw h9 (hct r m' h) hn hst hcat hf (k r m'))
theorem r_csP {f : Option Int32} {K : Int32 → Option ρ} (hX : Gd X cc own nL fr) (hd : decode cc pc = .ok (.invokestatic idx, 3)) (hM : MI y cy nLy ret n) (hV : Cond.static y ∈ gt) (hw : Cond.methodLink own idx y ∈ gt) (hct : ∀ (r : Int32), f = some r → Ct y cy nLy ret fy As mm (fun _ => (some (.int r), mm))) (hn : (As (xad X)).length = n) (hst : stk = (As (xad X)).reverse ++ st) (hcat : (st.map fun v => v.category).sum ≤ 8) (hf : fy < fr) (k : ∀ r, J X ov (K r) mm (pc + 3) L (.int r :: st)) : J X ov (cP f K) mm pc L stk :=
  r_cP (fun r h => r_callS hX hd hM hV hw (hct r h) hn hst hcat hf (k r))
theorem r_csL {f : Option Int64} {K : Int64 → Option ρ} (hX : Gd X cc own nL fr) (hd : decode cc pc = .ok (.invokestatic idx, 3)) (hM : MI y cy nLy ret n) (hV : Cond.static y ∈ gt) (hw : Cond.methodLink own idx y ∈ gt) (hct : ∀ (r : Int64), f = some r → Ct y cy nLy ret fy As mm (fun _ => (some (.long r), mm))) (hn : (As (xad X)).length = n) (hst : stk = (As (xad X)).reverse ++ st) (hcat : (st.map fun v => v.category).sum ≤ 8) (hf : fy < fr) (k : ∀ r, J X ov (K r) mm (pc + 3) L (.long r :: st)) : J X ov (cP f K) mm pc L stk :=
  r_cP (fun r h => r_callS hX hd hM hV hw (hct r h) hn hst hcat hf (k r))
theorem r_csR {f : Option Nat} {K : Nat → Option ρ} (hX : Gd X cc own nL fr) (hd : decode cc pc = .ok (.invokestatic idx, 3)) (hM : MI y cy nLy ret n) (hV : Cond.static y ∈ gt) (hw : Cond.methodLink own idx y ∈ gt) (hct : ∀ (r : Nat), f = some r → Ct y cy nLy ret fy As mm (fun ad => (some (.ref (ad r)), mm))) (hn : (As (xad X)).length = n) (hst : stk = (As (xad X)).reverse ++ st) (hcat : (st.map fun v => v.category).sum ≤ 8) (hf : fy < fr) (k : ∀ r, f = some r → J X ov (K r) mm (pc + 3) L (rX X r :: st)) : J X ov (cP f K) mm pc L stk :=
  r_cP (fun r h => r_callS hX hd hM hV hw (hct r h) hn hst hcat hf (k r h))
theorem r_csV {f : Option Me} {K : Me → Option ρ} (hX : Gd X cc own nL fr) (hd : decode cc pc = .ok (.invokestatic idx, 3)) (hM : MI y cy nLy ret n) (hV : Cond.static y ∈ gt) (hw : Cond.methodLink own idx y ∈ gt) (hct : ∀ (r : Me), f = some r → Ct y cy nLy ret fy As mm (fun _ => (none, r))) (hn : (As (xad X)).length = n) (hst : stk = (As (xad X)).reverse ++ st) (hcat : (st.map fun v => v.category).sum ≤ 8) (hf : fy < fr) (k : ∀ r, J X ov (K r) r (pc + 3) L st) : J X ov (cP f K) mm pc L stk :=
  r_cP (fun r h => r_callS hX hd hM hV hw (hct r h) hn hst hcat hf (k r))
theorem r_csI {f : Option (Int32 × Me)} {K : Int32 → Me → Option ρ} (hX : Gd X cc own nL fr) (hd : decode cc pc = .ok (.invokestatic idx, 3)) (hM : MI y cy nLy ret n) (hV : Cond.static y ∈ gt) (hw : Cond.methodLink own idx y ∈ gt) (hct : ∀ (r : Int32) (m' : Me), f = some (r, m') → Ct y cy nLy ret fy As mm (fun _ => (some (.int r), m'))) (hn : (As (xad X)).length = n) (hst : stk = (As (xad X)).reverse ++ st) (hcat : (st.map fun v => v.category).sum ≤ 8) (hf : fy < fr) (k : ∀ r m', J X ov (K r m') m' (pc + 3) L (.int r :: st)) : J X ov (cI f K) mm pc L stk :=
  r_cI (fun r m' h => r_callS hX hd hM hV hw (hct r m' h) hn hst hcat hf (k r m'))
theorem r_mmax (hX : Gd X cc own nL fr) {x y : Int32} (hd : decode cc pc = .ok (.invokestatic idx, 3)) (hw : Cond.methodLink own idx Lib.Math.max.name ∈ gt) (hcat : (st.map fun v => v.category).sum ≤ 8) (h3 : 1 ≤ fr) (k : J X ov F mm (pc + 3) L (.int (mx x y) :: st)) : J X ov F mm pc L (.int y :: .int x :: st) := by
  obtain ⟨p, l, e, R, s, m, args, below, meth, c, D, cy, ad, A, sad, kc, ks, fin, qq⟩ := X
  obtain ⟨hx, hb, hml, hown, hts, hK, hA, hSt, hlk, hfr, hlo, hkc, hks⟩ := hX
  intro res hF ho H locs ls hP hS hl
  exact va_mmax hx hb hl.1.symm hown (hts _ hw) (hts _ math_s_max) (hts _ math_i) (hts _ math_c_max) (by omega) (by omega) hkc hks hd (k res hF ho H locs ls hP hS hl)
theorem r_mmin (hX : Gd X cc own nL fr) {x y : Int32} (hd : decode cc pc = .ok (.invokestatic idx, 3)) (hw : Cond.methodLink own idx Lib.Math.min.name ∈ gt) (hcat : (st.map fun v => v.category).sum ≤ 8) (h3 : 1 ≤ fr) (k : J X ov F mm (pc + 3) L (.int (mn x y) :: st)) : J X ov F mm pc L (.int y :: .int x :: st) := by
  obtain ⟨p, l, e, R, s, m, args, below, meth, c, D, cy, ad, A, sad, kc, ks, fin, qq⟩ := X
  obtain ⟨hx, hb, hml, hown, hts, hK, hA, hSt, hlk, hfr, hlo, hkc, hks⟩ := hX
  intro res hF ho H locs ls hP hS hl
  exact va_mmin hx hb hl.1.symm hown (hts _ hw) (hts _ math_s_min) (hts _ math_i) (hts _ math_c_min) (by omega) (by omega) hkc hks hd (k res hF ho H locs ls hP hS hl)
theorem r_mabs (hX : Gd X cc own nL fr) {x : Int32} (hd : decode cc pc = .ok (.invokestatic idx, 3)) (hw : Cond.methodLink own idx Lib.Math.abs.name ∈ gt) (hcat : (st.map fun v => v.category).sum ≤ 8) (h3 : 1 ≤ fr) (k : J X ov F mm (pc + 3) L (.int (mb x) :: st)) : J X ov F mm pc L (.int x :: st) := by
  obtain ⟨p, l, e, R, s, m, args, below, meth, c, D, cy, ad, A, sad, kc, ks, fin, qq⟩ := X
  obtain ⟨hx, hb, hml, hown, hts, hK, hA, hSt, hlk, hfr, hlo, hkc, hks⟩ := hX
  intro res hF ho H locs ls hP hS hl
  exact va_mabs hx hb hl.1.symm hown (hts _ hw) (hts _ math_s_abs) (hts _ math_i) (hts _ math_c_abs) (by omega) (by omega) hkc hks hd (k res hF ho H locs ls hP hS hl)
end ROWS3
