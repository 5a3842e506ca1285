/-- where the references go, and nothing else -/
def rg (o j : Nat) : Option Nat := if (kd o < 9 ∧ ft (kd o) j = 3) ∨ (22 < kd o ∧ kd o < 25 ∧ j < ln o) then rf o j else none
def upS (S : Nat → Bool) (r : Nat → Nat → Option Nat) : Nat → Nat → Option Nat := fun a => if S a = true then rg a else r a
theorem dr_Ls {X : Cx} {L0 Ls Ls' : List Nat} {r : Nat → Nat → Option Nat} {kc ks pc : Nat} {L : List (Nat × Value)} {st : List Value} (h : Ls = Ls') (k : JD X L0 Ls' r kc ks pc L st) : JD X L0 Ls r kc ks pc L st := h ▸ k
theorem rs_none {r : Nat → Nat → Option Nat} {o j n a : Nat} (h : ∀ b, r a b = none) (ha : a ≠ o) : ∀ b, rs r o j n a b = none := fun b => by unfold rs; rw [if_neg (fun q => ha q.1)]; exact h b
theorem ce2_ref {cy : Nat → ClassId} {ad : Nat → Nat} {r r' : Nat → Nat → Option Nat} {o : Nat} (h9 : kd o < 9) (h : ∀ j, j < nf (kd o) → ft (kd o) j = 3 → r o j = r' o j) : ce2 cy ad r o = ce2 cy ad r' o := by
  rw [ce2_o h9, ce2_o h9]
  congr 2
  unfold fs2
  apply List.map_congr_left
  intro j hj
  unfold sv2
  by_cases h1 : ft (kd o) j < 2
  · rw [if_pos h1, if_pos h1]
  · rw [if_neg h1, if_neg h1]
    by_cases h2 : ft (kd o) j = 2
    · rw [if_pos h2, if_pos h2]
    · rw [if_neg h2, if_neg h2]
      have hj2 := List.mem_range.mp hj
      have h3 : ft (kd o) j = 3 ∨ ft (kd o) j = 9 := by
        have hk : kd o = 0 ∨ kd o = 1 ∨ kd o = 2 ∨ kd o = 3 ∨ kd o = 4 ∨ kd o = 5 ∨ kd o = 6 ∨ kd o = 7 ∨ kd o = 8 := by omega
        generalize kd o = k at hj2 h1 h2 hk ⊢
        have key : ∀ k, k < 9 → ∀ j, j < nf k → ft k j < 2 ∨ ft k j = 2 ∨ ft k j = 3 := by decide +kernel
        rcases key k (by omega) j hj2 with q | q | q
        · exact absurd q h1
        · exact absurd q h2
        · exact Or.inl q
      rcases h3 with q | q
      · rw [h j hj2 q]
      · have key : ∀ k, k < 9 → ∀ j, j < nf k → ft k j ≠ 9 := by decide +kernel
        exact absurd q (key _ h9 j hj2)
theorem ce2_arr {cy : Nat → ClassId} {ad : Nat → Nat} {r r' : Nat → Nat → Option Nat} {o : Nat} (h : kd o = 20 ∨ kd o = 21 ∨ kd o = 22) : ce2 cy ad r o = ce2 cy ad r' o := by
  unfold ce2
  rcases h with q | q | q <;> rw [q] <;> rfl
theorem rgC2 {c : Nat} (h : kd c = 1) : rg c 2 = some (c + 1) := by
  unfold rg
  rw [if_pos (Or.inl ⟨by omega, by rw [h]; rfl⟩)]
  exact rfC2 h
theorem rgC3 {c : Nat} (h : kd c = 1) : rg c 3 = some (c + 2) := by
  unfold rg
  rw [if_pos (Or.inl ⟨by omega, by rw [h]; rfl⟩)]
  exact rfC3 h
theorem rgC4 {c : Nat} (h : kd c = 1) : rg c 4 = some (c + 3) := by
  unfold rg
  rw [if_pos (Or.inl ⟨by omega, by rw [h]; rfl⟩)]
  exact rfC4 h
theorem rgC5 {c : Nat} (h : kd c = 1) : rg c 5 = some (c + 4) := by
  unfold rg
  rw [if_pos (Or.inl ⟨by omega, by rw [h]; rfl⟩)]
  exact rfC5 h
theorem rgC6 {c : Nat} (h : kd c = 1) : rg c 6 = some (c + 5) := by
  unfold rg
  rw [if_pos (Or.inl ⟨by omega, by rw [h]; rfl⟩)]
  exact rfC6 h
theorem rgC7 {c : Nat} (h : kd c = 1) : rg c 7 = some (c + 6) := by
  unfold rg
  rw [if_pos (Or.inl ⟨by omega, by rw [h]; rfl⟩)]
  exact rfC7 h
theorem rgC8 {c : Nat} (h : kd c = 1) : rg c 8 = some (c + 7) := by
  unfold rg
  rw [if_pos (Or.inl ⟨by omega, by rw [h]; rfl⟩)]
  exact rfC8 h
theorem rgC9 {c : Nat} (h : kd c = 1) : rg c 9 = some (c + 8) := by
  unfold rg
  rw [if_pos (Or.inl ⟨by omega, by rw [h]; rfl⟩)]
  exact rfC9 h
theorem rgC10 {c : Nat} (h : kd c = 1) : rg c 10 = some (c + 9) := by
  unfold rg
  rw [if_pos (Or.inl ⟨by omega, by rw [h]; rfl⟩)]
  exact rfC10 h
theorem rgO {c j : Nat} (h : kd c = 1) (hj : ¬ (2 ≤ j ∧ j ≤ 10)) : rg c j = none := by
  unfold rg
  rw [if_neg]
  rintro (⟨-, q⟩ | ⟨q, -⟩)
  · rw [h] at q
    have : j < 2 ∨ 11 ≤ j := by omega
    rcases this with w | w
    · rcases (show j = 0 ∨ j = 1 by omega) with rfl | rfl <;> exact absurd q (by decide)
    · unfold ft at q
      rw [List.getD_eq_getElem?_getD, List.getElem?_eq_none (by exact w)] at q
      exact absurd q (by decide)
  · omega
theorem lnC1 {c : Nat} (h : kd c = 1) : ln (c + 1) = 24 := by
  rcases chart_no h with rfl | rfl | rfl | rfl | rfl | rfl | rfl | rfl | rfl <;> rfl
theorem lnC2 {c : Nat} (h : kd c = 1) : ln (c + 2) = 24 := by
  rcases chart_no h with rfl | rfl | rfl | rfl | rfl | rfl | rfl | rfl | rfl <;> rfl
theorem lnC3 {c : Nat} (h : kd c = 1) : ln (c + 3) = 24 := by
  rcases chart_no h with rfl | rfl | rfl | rfl | rfl | rfl | rfl | rfl | rfl <;> rfl
theorem lnC4 {c : Nat} (h : kd c = 1) : ln (c + 4) = 24 := by
  rcases chart_no h with rfl | rfl | rfl | rfl | rfl | rfl | rfl | rfl | rfl <;> rfl
theorem lnC5 {c : Nat} (h : kd c = 1) : ln (c + 5) = 24 := by
  rcases chart_no h with rfl | rfl | rfl | rfl | rfl | rfl | rfl | rfl | rfl <;> rfl
theorem lnC6 {c : Nat} (h : kd c = 1) : ln (c + 6) = 24 := by
  rcases chart_no h with rfl | rfl | rfl | rfl | rfl | rfl | rfl | rfl | rfl <;> rfl
theorem lnC7 {c : Nat} (h : kd c = 1) : ln (c + 7) = 24 := by
  rcases chart_no h with rfl | rfl | rfl | rfl | rfl | rfl | rfl | rfl | rfl <;> rfl
theorem lnC8 {c : Nat} (h : kd c = 1) : ln (c + 8) = 20 := by
  rcases chart_no h with rfl | rfl | rfl | rfl | rfl | rfl | rfl | rfl | rfl <;> rfl
theorem lnC9 {c : Nat} (h : kd c = 1) : ln (c + 9) = 20 := by
  rcases chart_no h with rfl | rfl | rfl | rfl | rfl | rfl | rfl | rfl | rfl <;> rfl

theorem IM_Box_init : Cond.instanceMethod yX0_init ∈ gt := (tw 116 (by decide +kernel) rfl)
theorem IM_Chart_init : Cond.instanceMethod yX1_init ∈ gt := (tw 25 (by decide +kernel) rfl)
theorem MI_Box_init : MI yX0_init cX0_init 1 none 0 := ⟨(tw 117 (by decide +kernel) rfl), (tw 5 (by decide +kernel) rfl), by decide +kernel, by decide⟩
theorem MI_Chart_init : MI yX1_init cX1_init 1 none 0 := ⟨(tw 26 (by decide +kernel) rfl), (tw 2 (by decide +kernel) rfl), by decide +kernel, by decide⟩
theorem bp_119 : (Int8.ofInt (119)).toInt32 = (119 : Int32) := by decide
theorem bp_25 : (Int8.ofInt (25)).toInt32 = (25 : Int32) := by decide
theorem clX2_9 : Cond.classLink RX2 9 RX1 ∈ gt := tw 92 (by decide +kernel) rfl
theorem clX3_9 : Cond.classLink RX3 9 RX0 ∈ gt := tw 112 (by decide +kernel) rfl
theorem clX5_21 : Cond.classLink RX5 21 RX0 ∈ gt := tw 236 (by decide +kernel) rfl
theorem df0 : ∀ j, j < 9 → defaultValue (tyX0 j) = (if ft 0 j < 2 then Value.int 0 else if ft 0 j = 2 then Value.long 0 else Value.null) := by
  intro j hj
  rcases (show j = 0 ∨ j = 1 ∨ j = 2 ∨ j = 3 ∨ j = 4 ∨ j = 5 ∨ j = 6 ∨ j = 7 ∨ j = 8 by omega) with rfl | rfl | rfl | rfl | rfl | rfl | rfl | rfl | rfl <;> rfl
theorem df1 : ∀ j, j < 11 → defaultValue (tyX1 j) = (if ft 1 j < 2 then Value.int 0 else if ft 1 j = 2 then Value.long 0 else Value.null) := by
  intro j hj
  rcases (show j = 0 ∨ j = 1 ∨ j = 2 ∨ j = 3 ∨ j = 4 ∨ j = 5 ∨ j = 6 ∨ j = 7 ∨ j = 8 ∨ j = 9 ∨ j = 10 by omega) with rfl | rfl | rfl | rfl | rfl | rfl | rfl | rfl | rfl | rfl | rfl <;> rfl
theorem ii_Box : Cond.initialized RX0 ∈ gt := (tw 5 (by decide +kernel) rfl)
theorem ii_Chart : Cond.initialized RX1 ∈ gt := (tw 2 (by decide +kernel) rfl)
theorem in_Box : Cond.instantiable RX0 9 ∈ gt := tw 114 (by decide +kernel) rfl
theorem in_Chart : Cond.instantiable RX1 11 ∈ gt := tw 23 (by decide +kernel) rfl
theorem olX0 : Cond.methodLink RX0 3 objectInit ∈ gt := tw 118 (by decide +kernel) rfl
theorem olX1 : Cond.methodLink RX1 3 objectInit ∈ gt := tw 27 (by decide +kernel) rfl
theorem olX2 : Cond.methodLink RX2 3 objectInit ∈ gt := tw 91 (by decide +kernel) rfl
theorem olX3 : Cond.methodLink RX3 3 objectInit ∈ gt := tw 111 (by decide +kernel) rfl
theorem olX4 : Cond.methodLink RX4 3 objectInit ∈ gt := tw 169 (by decide +kernel) rfl
theorem olX5 : Cond.methodLink RX5 3 objectInit ∈ gt := tw 235 (by decide +kernel) rfl
theorem olX6 : Cond.methodLink RX6 3 objectInit ∈ gt := tw 196 (by decide +kernel) rfl
theorem olX8 : Cond.methodLink RX8 1 objectInit ∈ gt := tw 750 (by decide +kernel) rfl
theorem sp_1680 : (Int16.ofInt (1680)).toInt32 = (1680 : Int32) := by decide
theorem sp_384 : (Int16.ofInt (384)).toInt32 = (384 : Int32) := by decide
theorem dr_req {X : Cx} {L0 Ls : List Nat} {r r' : Nat → Nat → Option Nat} {kc ks pc : Nat} {L : List (Nat × Value)} {st : List Value} (h : r = r') (k : JD X L0 Ls r' kc ks pc L st) : JD X L0 Ls r kc ks pc L st := h ▸ k
theorem rg_ref {o j : Nat} (h9 : kd o < 9) {x : Nat} (h : rg o j = some x) : j < nf (kd o) ∧ ft (kd o) j = 3 := by
  unfold rg at h
  by_cases q : (kd o < 9 ∧ ft (kd o) j = 3) ∨ (22 < kd o ∧ kd o < 25 ∧ j < ln o)
  · rcases q with ⟨-, q⟩ | ⟨q, -⟩
    · refine ⟨?_, q⟩
      rcases Nat.lt_or_ge j (nf (kd o)) with w | w
      · exact w
      · exfalso
        unfold ft at q
        rw [List.getD_eq_getElem?_getD, List.getElem?_eq_none (by exact w)] at q
        exact absurd q (by decide)
    · omega
  · rw [if_neg q] at h; cases h
theorem dr_up {X : Cx} {L0 Ls : List Nat} {r r0 : Nat → Nat → Option Nat} {kc ks pc : Nat} {L : List (Nat × Value)} {st : List Value} (o : Nat) (h9 : kd o < 9) (heq : ∀ j, j < nf (kd o) → ft (kd o) j = 3 → r o j = rg o j) (hne : ∀ a, a ≠ o → r a = r0 a) (k : JD X L0 Ls (upS (fun a => a == o) r0) kc ks pc L st) : JD X L0 Ls r kc ks pc L st := by
  have hu : upS (fun a => a == o) r0 o = rg o := by unfold upS; simp
  have hn : ∀ a, a ≠ o → upS (fun a => a == o) r0 a = r a := fun a ha => by rw [hne a ha]; unfold upS; simp [ha]
  refine dr_r (fun a _ ad cy => ?_) (fun hc a ha j x h => ?_) k
  · by_cases q : a = o
    · subst q
      exact ce2_ref h9 (fun j hj ht => by rw [heq j hj ht, hu])
    · exact ce2_congr (fun j => by rw [hn a q])
  · by_cases q : a = o
    · subst q
      rw [hu] at h
      obtain ⟨w1, w2⟩ := rg_ref h9 h
      exact hc a ha j x (by rw [heq j w1 w2]; exact h)
    · rw [hn a q] at h
      exact hc a ha j x h
theorem range_10 (i : Nat) : List.range' 20 (10 * (i + 1)) = List.range' 20 (10 * i) ++ [20 + 10 * i, 20 + 10 * i + 1, 20 + 10 * i + 2, 20 + 10 * i + 3, 20 + 10 * i + 4, 20 + 10 * i + 5, 20 + 10 * i + 6, 20 + 10 * i + 7, 20 + 10 * i + 8, 20 + 10 * i + 9] := by
  rw [show 10 * (i + 1) = 10 * i + 10 by omega, ← List.range'_append_1]
  rfl
theorem range_1 (i : Nat) : List.range' 1000 (i + 1) = List.range' 1000 i ++ [1000 + i] := by
  rw [← List.range'_append_1]
  rfl
theorem in_range {a n k : Nat} (h : a ∈ List.range' n k) : n ≤ a ∧ a < n + k := by
  simpa using List.mem_range'_1.mp h
set_option maxHeartbeats 4000000 in
set_option maxRecDepth 100000 in
theorem ci_Box (n : Nat) (Ls : List Nat) (r : Nat → Nat → Option Nat) (ho : n ∈ Ls) : CtI yX0_init cX0_init 1 1 0 0 n Ls r Ls r := by
  refine mk_cti ho (by decide) rfl (by decide) ?_
  intro X hX hin hE
  refine dr_aload_n (pc := 0) hX 0 dX0_init_0 rfl rfl ?_
  refine dr_objinit (pc := 1) hX dX0_init_1 olX0 (by decide) (by decide) ?_
  exact dr_ret (pc := 4) hX hE dX0_init_4
set_option maxHeartbeats 4000000 in
set_option maxRecDepth 100000 in
theorem ci_Chart (c : Nat) (hc : kd c = 1) (Ls : List Nat) (r : Nat → Nat → Option Nat) (ho : c ∈ Ls) (hf : ∀ k, c < k → k ≤ c + 9 → k ∉ Ls) (hr : ∀ k, c < k → k ≤ c + 9 → ∀ j, r k j = none) : CtI yX1_init cX1_init 1 1 9 208 c Ls r (Ls ++ [c + 1, c + 2, c + 3, c + 4, c + 5, c + 6, c + 7, c + 8, c + 9]) (upS (fun a => a == c) r) := by
  refine mk_cti ho (by decide) rfl (by decide) ?_
  intro X hX hin hE
  refine dr_aload_n (pc := 0) hX 0 dX1_init_0 rfl rfl ?_
  refine dr_objinit (pc := 1) hX dX1_init_1 olX1 (by decide) (by decide) ?_
  refine dr_aload_n (pc := 4) hX 0 dX1_init_4 rfl rfl ?_
  refine dr_bipush (pc := 5) hX dX1_init_5 bp_24 ?_
  refine dr_newaI (pc := 7) hX (c + 1) 24 dX1_init_7 (kdC1 hc) (lnC1 hc) (by decide) (by decide) (by decide) (hf _ (by omega) (by omega)) (hr _ (by omega) (by omega)) (by omega) (by omega) ?_
  refine dr_putF (pc := 9) hX hin dX1_init_9 fp1_9 hc rfl (fun _ => rfl) (fun _ => rfl) ?_
  refine dr_aload_n (pc := 12) hX 0 dX1_init_12 rfl rfl ?_
  refine dr_bipush (pc := 13) hX dX1_init_13 bp_24 ?_
  refine dr_newaI (pc := 15) hX (c + 2) 24 dX1_init_15 (kdC2 hc) (lnC2 hc) (by decide) (by decide) (by decide) (nin_app (hf _ (by omega) (by omega)) (by omega)) (rs_none (hr _ (by omega) (by omega)) (by omega)) (by omega) (by omega) ?_
  refine dr_putF (pc := 17) hX hin dX1_init_17 fp1_15 hc rfl (fun _ => rfl) (fun _ => rfl) ?_
  refine dr_aload_n (pc := 20) hX 0 dX1_init_20 rfl rfl ?_
  refine dr_bipush (pc := 21) hX dX1_init_21 bp_24 ?_
  refine dr_newaI (pc := 23) hX (c + 3) 24 dX1_init_23 (kdC3 hc) (lnC3 hc) (by decide) (by decide) (by decide) (nin_app (nin_app (hf _ (by omega) (by omega)) (by omega)) (by omega)) (rs_none (rs_none (hr _ (by omega) (by omega)) (by omega)) (by omega)) (by omega) (by omega) ?_
  refine dr_putF (pc := 25) hX hin dX1_init_25 fp1_18 hc rfl (fun _ => rfl) (fun _ => rfl) ?_
  refine dr_aload_n (pc := 28) hX 0 dX1_init_28 rfl rfl ?_
  refine dr_bipush (pc := 29) hX dX1_init_29 bp_24 ?_
  refine dr_newaI (pc := 31) hX (c + 4) 24 dX1_init_31 (kdC4 hc) (lnC4 hc) (by decide) (by decide) (by decide) (nin_app (nin_app (nin_app (hf _ (by omega) (by omega)) (by omega)) (by omega)) (by omega)) (rs_none (rs_none (rs_none (hr _ (by omega) (by omega)) (by omega)) (by omega)) (by omega)) (by omega) (by omega) ?_
  refine dr_putF (pc := 33) hX hin dX1_init_33 fp1_21 hc rfl (fun _ => rfl) (fun _ => rfl) ?_
  refine dr_aload_n (pc := 36) hX 0 dX1_init_36 rfl rfl ?_
  refine dr_bipush (pc := 37) hX dX1_init_37 bp_24 ?_
  refine dr_newaI (pc := 39) hX (c + 5) 24 dX1_init_39 (kdC5 hc) (lnC5 hc) (by decide) (by decide) (by decide) (nin_app (nin_app (nin_app (nin_app (hf _ (by omega) (by omega)) (by omega)) (by omega)) (by omega)) (by omega)) (rs_none (rs_none (rs_none (rs_none (hr _ (by omega) (by omega)) (by omega)) (by omega)) (by omega)) (by omega)) (by omega) (by omega) ?_
  refine dr_putF (pc := 41) hX hin dX1_init_41 fp1_24 hc rfl (fun _ => rfl) (fun _ => rfl) ?_
  refine dr_aload_n (pc := 44) hX 0 dX1_init_44 rfl rfl ?_
  refine dr_bipush (pc := 45) hX dX1_init_45 bp_24 ?_
  refine dr_newaI (pc := 47) hX (c + 6) 24 dX1_init_47 (kdC6 hc) (lnC6 hc) (by decide) (by decide) (by decide) (nin_app (nin_app (nin_app (nin_app (nin_app (hf _ (by omega) (by omega)) (by omega)) (by omega)) (by omega)) (by omega)) (by omega)) (rs_none (rs_none (rs_none (rs_none (rs_none (hr _ (by omega) (by omega)) (by omega)) (by omega)) (by omega)) (by omega)) (by omega)) (by omega) (by omega) ?_
  refine dr_putF (pc := 49) hX hin dX1_init_49 fp1_27 hc rfl (fun _ => rfl) (fun _ => rfl) ?_
  refine dr_aload_n (pc := 52) hX 0 dX1_init_52 rfl rfl ?_
  refine dr_bipush (pc := 53) hX dX1_init_53 bp_24 ?_
  refine dr_newaI (pc := 55) hX (c + 7) 24 dX1_init_55 (kdC7 hc) (lnC7 hc) (by decide) (by decide) (by decide) (nin_app (nin_app (nin_app (nin_app (nin_app (nin_app (hf _ (by omega) (by omega)) (by omega)) (by omega)) (by omega)) (by omega)) (by omega)) (by omega)) (rs_none (rs_none (rs_none (rs_none (rs_none (rs_none (hr _ (by omega) (by omega)) (by omega)) (by omega)) (by omega)) (by omega)) (by omega)) (by omega)) (by omega) (by omega) ?_
  refine dr_putF (pc := 57) hX hin dX1_init_57 fp1_30 hc rfl (fun _ => rfl) (fun _ => rfl) ?_
  refine dr_aload_n (pc := 60) hX 0 dX1_init_60 rfl rfl ?_
  refine dr_bipush (pc := 61) hX dX1_init_61 bp_20 ?_
  refine dr_newaI (pc := 63) hX (c + 8) 20 dX1_init_63 (kdC8 hc) (lnC8 hc) (by decide) (by decide) (by decide) (nin_app (nin_app (nin_app (nin_app (nin_app (nin_app (nin_app (hf _ (by omega) (by omega)) (by omega)) (by omega)) (by omega)) (by omega)) (by omega)) (by omega)) (by omega)) (rs_none (rs_none (rs_none (rs_none (rs_none (rs_none (rs_none (hr _ (by omega) (by omega)) (by omega)) (by omega)) (by omega)) (by omega)) (by omega)) (by omega)) (by omega)) (by omega) (by omega) ?_
  refine dr_putF (pc := 65) hX hin dX1_init_65 fp1_33 hc rfl (fun _ => rfl) (fun _ => rfl) ?_
  refine dr_aload_n (pc := 68) hX 0 dX1_init_68 rfl rfl ?_
  refine dr_bipush (pc := 69) hX dX1_init_69 bp_20 ?_
  refine dr_newaI (pc := 71) hX (c + 9) 20 dX1_init_71 (kdC9 hc) (lnC9 hc) (by decide) (by decide) (by decide) (nin_app (nin_app (nin_app (nin_app (nin_app (nin_app (nin_app (nin_app (hf _ (by omega) (by omega)) (by omega)) (by omega)) (by omega)) (by omega)) (by omega)) (by omega)) (by omega)) (by omega)) (rs_none (rs_none (rs_none (rs_none (rs_none (rs_none (rs_none (rs_none (hr _ (by omega) (by omega)) (by omega)) (by omega)) (by omega)) (by omega)) (by omega)) (by omega)) (by omega)) (by omega)) (by omega) (by omega) ?_
  refine dr_putF (pc := 73) hX hin dX1_init_73 fp1_36 hc rfl (fun _ => rfl) (fun _ => rfl) ?_
  refine dr_Ls (Ls' := Ls ++ [c + 1, c + 2, c + 3, c + 4, c + 5, c + 6, c + 7, c + 8, c + 9]) (by simp [List.append_assoc]) ?_
  refine dr_up c (by rw [hc]; decide) (fun j hj ht => ?_) (fun a ha => by funext j; simp [rs, ha]) (dr_ret (pc := 76) hX hE dX1_init_76)
  rw [hc] at hj ht
  have hj : j < 11 := hj
  rcases (show j = 0 ∨ j = 1 ∨ j = 2 ∨ j = 3 ∨ j = 4 ∨ j = 5 ∨ j = 6 ∨ j = 7 ∨ j = 8 ∨ j = 9 ∨ j = 10 by omega) with rfl | rfl | rfl | rfl | rfl | rfl | rfl | rfl | rfl | rfl | rfl
  · exact absurd ht (by decide)
  · exact absurd ht (by decide)
  · rw [rgC2 hc]; simp [rs]
  · rw [rgC3 hc]; simp [rs]
  · rw [rgC4 hc]; simp [rs]
  · rw [rgC5 hc]; simp [rs]
  · rw [rgC6 hc]; simp [rs]
  · rw [rgC7 hc]; simp [rs]
  · rw [rgC8 hc]; simp [rs]
  · rw [rgC9 hc]; simp [rs]
  · rw [rgC10 hc]; simp [rs]
set_option maxHeartbeats 4000000 in
set_option maxRecDepth 100000 in
theorem ci_Parts (Ls : List Nat) (r : Nat → Nat → Option Nat) (ho : 6 ∈ Ls) (hf : ∀ k ∈ ([7, 8] : List Nat), k ∉ Ls) (hr : ∀ k ∈ ([7, 8] : List Nat), ∀ j, r k j = none) : CtI yX4_init cX4_init 1 1 2 48 6 Ls r (Ls ++ [7, 8]) (upS (fun a => a == 6) r) := by
  refine mk_cti ho (by decide) rfl (by decide) ?_
  intro X hX hin hE
  refine dr_aload_n (pc := 0) hX 0 dX4_init_0 rfl rfl ?_
  refine dr_objinit (pc := 1) hX dX4_init_1 olX4 (by decide) (by decide) ?_
  refine dr_aload_n (pc := 4) hX 0 dX4_init_4 rfl rfl ?_
  refine dr_bipush (pc := 5) hX dX4_init_5 bp_24 ?_
  refine dr_newaI (pc := 7) hX 7 24 dX4_init_7 rfl rfl (by decide) (by decide) (by decide) (hf 7 (by decide)) (hr 7 (by decide)) (by omega) (by omega) ?_
  refine dr_putF (pc := 9) hX hin dX4_init_9 fp4_9 rfl rfl (fun _ => rfl) (fun _ => rfl) ?_
  refine dr_aload_n (pc := 12) hX 0 dX4_init_12 rfl rfl ?_
  refine dr_bipush (pc := 13) hX dX4_init_13 bp_24 ?_
  refine dr_newaI (pc := 15) hX 8 24 dX4_init_15 rfl rfl (by decide) (by decide) (by decide) (nin_app (hf 8 (by decide)) (by omega)) (rs_none (hr 8 (by decide)) (by omega)) (by omega) (by omega) ?_
  refine dr_putF (pc := 17) hX hin dX4_init_17 fp4_15 rfl rfl (fun _ => rfl) (fun _ => rfl) ?_
  refine dr_Ls (Ls' := Ls ++ [7, 8]) (by simp [List.append_assoc]) ?_
  refine dr_up 6 (by decide) (fun j hj ht => ?_) (fun a ha => by funext j; simp [rs, ha]) (dr_ret (pc := 20) hX hE dX4_init_20)
  have hj : j < 5 := hj
  rcases (show j = 0 ∨ j = 1 ∨ j = 2 ∨ j = 3 ∨ j = 4 by omega) with rfl | rfl | rfl | rfl | rfl
  · rfl
  · rfl
  · exact absurd ht (by decide)
  · exact absurd ht (by decide)
  · exact absurd ht (by decide)
set_option maxHeartbeats 4000000 in
set_option maxRecDepth 100000 in
theorem ci_Search (Ls : List Nat) (r : Nat → Nat → Option Nat) (ho : 9 ∈ Ls) (hf : ∀ k ∈ ([100, 101, 102, 103, 104] : List Nat), k ∉ Ls) (hr : ∀ k ∈ ([100, 101, 102, 103, 104] : List Nat), ∀ j, r k j = none) : CtI yX6_init cX6_init 1 1 5 371 9 Ls r (Ls ++ [100, 101, 102, 103, 104]) (upS (fun a => a == 9) r) := by
  refine mk_cti ho (by decide) rfl (by decide) ?_
  intro X hX hin hE
  refine dr_aload_n (pc := 0) hX 0 dX6_init_0 rfl rfl ?_
  refine dr_objinit (pc := 1) hX dX6_init_1 olX6 (by decide) (by decide) ?_
  refine dr_aload_n (pc := 4) hX 0 dX6_init_4 rfl rfl ?_
  refine dr_bipush (pc := 5) hX dX6_init_5 bp_7 ?_
  refine dr_newaI (pc := 7) hX 100 7 dX6_init_7 rfl rfl (by decide) (by decide) (by decide) (hf 100 (by decide)) (hr 100 (by decide)) (by omega) (by omega) ?_
  refine dr_putF (pc := 9) hX hin dX6_init_9 fp6_9 rfl rfl (fun _ => rfl) (fun _ => rfl) ?_
  refine dr_aload_n (pc := 12) hX 0 dX6_init_12 rfl rfl ?_
  refine dr_bipush (pc := 13) hX dX6_init_13 bp_7 ?_
  refine dr_newaZ (pc := 15) hX 101 7 dX6_init_15 rfl rfl (by decide) (by decide) (by decide) (nin_app (hf 101 (by decide)) (by omega)) (rs_none (hr 101 (by decide)) (by omega)) (by omega) (by omega) ?_
  refine dr_putF (pc := 17) hX hin dX6_init_17 fp6_15 rfl rfl (fun _ => rfl) (fun _ => rfl) ?_
  refine dr_aload_n (pc := 20) hX 0 dX6_init_20 rfl rfl ?_
  refine dr_bipush (pc := 21) hX dX6_init_21 bp_119 ?_
  refine dr_newaI (pc := 23) hX 102 119 dX6_init_23 rfl rfl (by decide) (by decide) (by decide) (nin_app (nin_app (hf 102 (by decide)) (by omega)) (by omega)) (rs_none (rs_none (hr 102 (by decide)) (by omega)) (by omega)) (by omega) (by omega) ?_
  refine dr_putF (pc := 25) hX hin dX6_init_25 fp6_19 rfl rfl (fun _ => rfl) (fun _ => rfl) ?_
  refine dr_aload_n (pc := 28) hX 0 dX6_init_28 rfl rfl ?_
  refine dr_bipush (pc := 29) hX dX6_init_29 bp_119 ?_
  refine dr_newaJ (pc := 31) hX 103 119 dX6_init_31 rfl rfl (by decide) (by decide) (by decide) (nin_app (nin_app (nin_app (hf 103 (by decide)) (by omega)) (by omega)) (by omega)) (rs_none (rs_none (rs_none (hr 103 (by decide)) (by omega)) (by omega)) (by omega)) (by omega) (by omega) ?_
  refine dr_putF (pc := 33) hX hin dX6_init_33 fp6_22 rfl rfl (fun _ => rfl) (fun _ => rfl) ?_
  refine dr_aload_n (pc := 36) hX 0 dX6_init_36 rfl rfl ?_
  refine dr_bipush (pc := 37) hX dX6_init_37 bp_119 ?_
  refine dr_newaJ (pc := 39) hX 104 119 dX6_init_39 rfl rfl (by decide) (by decide) (by decide) (nin_app (nin_app (nin_app (nin_app (hf 104 (by decide)) (by omega)) (by omega)) (by omega)) (by omega)) (rs_none (rs_none (rs_none (rs_none (hr 104 (by decide)) (by omega)) (by omega)) (by omega)) (by omega)) (by omega) (by omega) ?_
  refine dr_putF (pc := 41) hX hin dX6_init_41 fp6_26 rfl rfl (fun _ => rfl) (fun _ => rfl) ?_
  refine dr_Ls (Ls' := Ls ++ [100, 101, 102, 103, 104]) (by simp [List.append_assoc]) ?_
  refine dr_up 9 (by decide) (fun j hj ht => ?_) (fun a ha => by funext j; simp [rs, ha]) (dr_ret (pc := 44) hX hE dX6_init_44)
  have hj : j < 10 := hj
  rcases (show j = 0 ∨ j = 1 ∨ j = 2 ∨ j = 3 ∨ j = 4 ∨ j = 5 ∨ j = 6 ∨ j = 7 ∨ j = 8 ∨ j = 9 by omega) with rfl | rfl | rfl | rfl | rfl | rfl | rfl | rfl | rfl | rfl
  · rfl
  · rfl
  · rfl
  · rfl
  · rfl
  · exact absurd ht (by decide)
  · exact absurd ht (by decide)
  · exact absurd ht (by decide)
  · exact absurd ht (by decide)
  · exact absurd ht (by decide)
set_option maxHeartbeats 4000000 in
set_option maxRecDepth 100000 in
theorem ci_Plan (Ls : List Nat) (r : Nat → Nat → Option Nat) (ho : 105 ∈ Ls) (hf : ∀ k ∈ ([106, 107, 108, 1386, 1387] : List Nat), k ∉ Ls) (hr : ∀ k ∈ ([106, 107, 108, 1386, 1387] : List Nat), ∀ j, r k j = none) : CtI yX5_init cX5_init 1 2 5 90 105 Ls r (Ls ++ [106, 107, 108, 1386, 1387]) (upS (fun a => a == 105) r) := by
  refine mk_cti ho (by decide) rfl (by decide) ?_
  intro X hX hin hE
  refine dr_aload_n (pc := 0) hX 0 dX5_init_0 rfl rfl ?_
  refine dr_objinit (pc := 1) hX dX5_init_1 olX5 (by decide) (by decide) ?_
  refine dr_aload_n (pc := 4) hX 0 dX5_init_4 rfl rfl ?_
  refine dr_bipush (pc := 5) hX dX5_init_5 bp_24 ?_
  refine dr_newaI (pc := 7) hX 106 24 dX5_init_7 rfl rfl (by decide) (by decide) (by decide) (hf 106 (by decide)) (hr 106 (by decide)) (by omega) (by omega) ?_
  refine dr_putF (pc := 9) hX hin dX5_init_9 fp5_9 rfl rfl (fun _ => rfl) (fun _ => rfl) ?_
  refine dr_aload_n (pc := 12) hX 0 dX5_init_12 rfl rfl ?_
  refine dr_bipush (pc := 13) hX dX5_init_13 bp_24 ?_
  refine dr_newaI (pc := 15) hX 107 24 dX5_init_15 rfl rfl (by decide) (by decide) (by decide) (nin_app (hf 107 (by decide)) (by omega)) (rs_none (hr 107 (by decide)) (by omega)) (by omega) (by omega) ?_
  refine dr_putF (pc := 17) hX hin dX5_init_17 fp5_15 rfl rfl (fun _ => rfl) (fun _ => rfl) ?_
  refine dr_aload_n (pc := 20) hX 0 dX5_init_20 rfl rfl ?_
  refine dr_bipush (pc := 21) hX dX5_init_21 bp_24 ?_
  refine dr_newaI (pc := 23) hX 108 24 dX5_init_23 rfl rfl (by decide) (by decide) (by decide) (nin_app (nin_app (hf 108 (by decide)) (by omega)) (by omega)) (rs_none (rs_none (hr 108 (by decide)) (by omega)) (by omega)) (by omega) (by omega) ?_
  refine dr_putF (pc := 25) hX hin dX5_init_25 fp5_18 rfl rfl (fun _ => rfl) (fun _ => rfl) ?_
  refine dr_aload_n (pc := 28) hX 0 dX5_init_28 rfl rfl ?_
  refine dr_new (pc := 29) hX 1386 dX5_init_29 KC0 df0 clX5_21 in_Box ii_Box rfl (nin_app (nin_app (nin_app (hf 1386 (by decide)) (by omega)) (by omega)) (by omega)) (rs_none (rs_none (rs_none (hr 1386 (by decide)) (by omega)) (by omega)) (by omega)) (by omega) (by omega) ?_
  refine dr_dup (pc := 32) hX dX5_init_32 rfl ?_
  refine dr_callN (pc := 33) hX dX5_init_33 MI_Box_init rfl IM_Box_init 6 (by decide) rfl (ci_Box 1386 _ _ (List.mem_append_right _ (List.mem_singleton.mpr rfl))) (Nat.le_of_ble_eq_true rfl) (by decide) (by omega) (by omega) ?_
  refine dr_putF (pc := 36) hX hin dX5_init_36 fp5_24 rfl rfl (fun _ => rfl) (fun _ => rfl) ?_
  refine dr_aload_n (pc := 39) hX 0 dX5_init_39 rfl rfl ?_
  refine dr_new (pc := 40) hX 1387 dX5_init_40 KC0 df0 clX5_21 in_Box ii_Box rfl (nin_app (nin_app (nin_app (nin_app (hf 1387 (by decide)) (by omega)) (by omega)) (by omega)) (by omega)) (rs_none (rs_none (rs_none (rs_none (hr 1387 (by decide)) (by omega)) (by omega)) (by omega)) (by omega)) (by omega) (by omega) ?_
  refine dr_dup (pc := 43) hX dX5_init_43 rfl ?_
  refine dr_callN (pc := 44) hX dX5_init_44 MI_Box_init rfl IM_Box_init 6 (by decide) rfl (ci_Box 1387 _ _ (List.mem_append_right _ (List.mem_singleton.mpr rfl))) (Nat.le_of_ble_eq_true rfl) (by decide) (by omega) (by omega) ?_
  refine dr_putF (pc := 47) hX hin dX5_init_47 fp5_28 rfl rfl (fun _ => rfl) (fun _ => rfl) ?_
  refine dr_Ls (Ls' := Ls ++ [106, 107, 108, 1386, 1387]) (by simp [List.append_assoc]) ?_
  refine dr_up 105 (by decide) (fun j hj ht => ?_) (fun a ha => by funext j; simp [rs, ha]) (dr_ret (pc := 50) hX hE dX5_init_50)
  have hj : j < 6 := hj
  rcases (show j = 0 ∨ j = 1 ∨ j = 2 ∨ j = 3 ∨ j = 4 ∨ j = 5 by omega) with rfl | rfl | rfl | rfl | rfl | rfl
  · rfl
  · rfl
  · rfl
  · rfl
  · rfl
  · exact absurd ht (by decide)
set_option maxHeartbeats 4000000 in
set_option maxRecDepth 100000 in
theorem ci_Mo (Ls : List Nat) (r : Nat → Nat → Option Nat) (ho : 200 ∈ Ls) (hf : ∀ k ∈ ([201, 202, 203, 204, 205, 206, 207, 208, 209, 210, 211, 212, 213, 214, 215, 216, 217, 218, 219, 220, 221, 222] : List Nat), k ∉ Ls) (hr : ∀ k ∈ ([201, 202, 203, 204, 205, 206, 207, 208, 209, 210, 211, 212, 213, 214, 215, 216, 217, 218, 219, 220, 221, 222] : List Nat), ∀ j, r k j = none) : CtI yX8_init cX8_init 1 1 22 2505 200 Ls r (Ls ++ [201, 202, 203, 204, 205, 206, 207, 208, 209, 210, 211, 212, 213, 214, 215, 216, 217, 218, 219, 220, 221, 222]) (upS (fun a => a == 200) r) := by
  refine mk_cti ho (by decide) rfl (by decide) ?_
  intro X hX hin hE
  refine dr_aload_n (pc := 0) hX 0 dX8_init_0 rfl rfl ?_
  refine dr_objinit (pc := 1) hX dX8_init_1 olX8 (by decide) (by decide) ?_
  refine dr_aload_n (pc := 4) hX 0 dX8_init_4 rfl rfl ?_
  refine dr_bipush (pc := 5) hX dX8_init_5 bp_24 ?_
  refine dr_newaI (pc := 7) hX 201 24 dX8_init_7 rfl rfl (by decide) (by decide) (by decide) (hf 201 (by decide)) (hr 201 (by decide)) (by omega) (by omega) ?_
  refine dr_putF (pc := 9) hX hin dX8_init_9 fp8_7 rfl rfl (fun _ => rfl) (fun _ => rfl) ?_
  refine dr_aload_n (pc := 12) hX 0 dX8_init_12 rfl rfl ?_
  refine dr_bipush (pc := 13) hX dX8_init_13 bp_24 ?_
  refine dr_newaI (pc := 15) hX 202 24 dX8_init_15 rfl rfl (by decide) (by decide) (by decide) (nin_app (hf 202 (by decide)) (by omega)) (rs_none (hr 202 (by decide)) (by omega)) (by omega) (by omega) ?_
  refine dr_putF (pc := 17) hX hin dX8_init_17 fp8_13 rfl rfl (fun _ => rfl) (fun _ => rfl) ?_
  refine dr_aload_n (pc := 20) hX 0 dX8_init_20 rfl rfl ?_
  refine dr_bipush (pc := 21) hX dX8_init_21 bp_24 ?_
  refine dr_newaI (pc := 23) hX 203 24 dX8_init_23 rfl rfl (by decide) (by decide) (by decide) (nin_app (nin_app (hf 203 (by decide)) (by omega)) (by omega)) (rs_none (rs_none (hr 203 (by decide)) (by omega)) (by omega)) (by omega) (by omega) ?_
  refine dr_putF (pc := 25) hX hin dX8_init_25 fp8_16 rfl rfl (fun _ => rfl) (fun _ => rfl) ?_
  refine dr_aload_n (pc := 28) hX 0 dX8_init_28 rfl rfl ?_
  refine dr_bipush (pc := 29) hX dX8_init_29 bp_24 ?_
  refine dr_newaI (pc := 31) hX 204 24 dX8_init_31 rfl rfl (by decide) (by decide) (by decide) (nin_app (nin_app (nin_app (hf 204 (by decide)) (by omega)) (by omega)) (by omega)) (rs_none (rs_none (rs_none (hr 204 (by decide)) (by omega)) (by omega)) (by omega)) (by omega) (by omega) ?_
  refine dr_putF (pc := 33) hX hin dX8_init_33 fp8_19 rfl rfl (fun _ => rfl) (fun _ => rfl) ?_
  refine dr_aload_n (pc := 36) hX 0 dX8_init_36 rfl rfl ?_
  refine dr_bipush (pc := 37) hX dX8_init_37 bp_24 ?_
  refine dr_newaI (pc := 39) hX 205 24 dX8_init_39 rfl rfl (by decide) (by decide) (by decide) (nin_app (nin_app (nin_app (nin_app (hf 205 (by decide)) (by omega)) (by omega)) (by omega)) (by omega)) (rs_none (rs_none (rs_none (rs_none (hr 205 (by decide)) (by omega)) (by omega)) (by omega)) (by omega)) (by omega) (by omega) ?_
  refine dr_putF (pc := 41) hX hin dX8_init_41 fp8_22 rfl rfl (fun _ => rfl) (fun _ => rfl) ?_
  refine dr_aload_n (pc := 44) hX 0 dX8_init_44 rfl rfl ?_
  refine dr_bipush (pc := 45) hX dX8_init_45 bp_24 ?_
  refine dr_newaI (pc := 47) hX 206 24 dX8_init_47 rfl rfl (by decide) (by decide) (by decide) (nin_app (nin_app (nin_app (nin_app (nin_app (hf 206 (by decide)) (by omega)) (by omega)) (by omega)) (by omega)) (by omega)) (rs_none (rs_none (rs_none (rs_none (rs_none (hr 206 (by decide)) (by omega)) (by omega)) (by omega)) (by omega)) (by omega)) (by omega) (by omega) ?_
  refine dr_putF (pc := 49) hX hin dX8_init_49 fp8_25 rfl rfl (fun _ => rfl) (fun _ => rfl) ?_
  refine dr_aload_n (pc := 52) hX 0 dX8_init_52 rfl rfl ?_
  refine dr_bipush (pc := 53) hX dX8_init_53 bp_24 ?_
  refine dr_newaI (pc := 55) hX 207 24 dX8_init_55 rfl rfl (by decide) (by decide) (by decide) (nin_app (nin_app (nin_app (nin_app (nin_app (nin_app (hf 207 (by decide)) (by omega)) (by omega)) (by omega)) (by omega)) (by omega)) (by omega)) (rs_none (rs_none (rs_none (rs_none (rs_none (rs_none (hr 207 (by decide)) (by omega)) (by omega)) (by omega)) (by omega)) (by omega)) (by omega)) (by omega) (by omega) ?_
  refine dr_putF (pc := 57) hX hin dX8_init_57 fp8_28 rfl rfl (fun _ => rfl) (fun _ => rfl) ?_
  refine dr_aload_n (pc := 60) hX 0 dX8_init_60 rfl rfl ?_
  refine dr_bipush (pc := 61) hX dX8_init_61 bp_20 ?_
  refine dr_newaI (pc := 63) hX 208 20 dX8_init_63 rfl rfl (by decide) (by decide) (by decide) (nin_app (nin_app (nin_app (nin_app (nin_app (nin_app (nin_app (hf 208 (by decide)) (by omega)) (by omega)) (by omega)) (by omega)) (by omega)) (by omega)) (by omega)) (rs_none (rs_none (rs_none (rs_none (rs_none (rs_none (rs_none (hr 208 (by decide)) (by omega)) (by omega)) (by omega)) (by omega)) (by omega)) (by omega)) (by omega)) (by omega) (by omega) ?_
  refine dr_putF (pc := 65) hX hin dX8_init_65 fp8_31 rfl rfl (fun _ => rfl) (fun _ => rfl) ?_
  refine dr_aload_n (pc := 68) hX 0 dX8_init_68 rfl rfl ?_
  refine dr_bipush (pc := 69) hX dX8_init_69 bp_20 ?_
  refine dr_newaI (pc := 71) hX 209 20 dX8_init_71 rfl rfl (by decide) (by decide) (by decide) (nin_app (nin_app (nin_app (nin_app (nin_app (nin_app (nin_app (nin_app (hf 209 (by decide)) (by omega)) (by omega)) (by omega)) (by omega)) (by omega)) (by omega)) (by omega)) (by omega)) (rs_none (rs_none (rs_none (rs_none (rs_none (rs_none (rs_none (rs_none (hr 209 (by decide)) (by omega)) (by omega)) (by omega)) (by omega)) (by omega)) (by omega)) (by omega)) (by omega)) (by omega) (by omega) ?_
  refine dr_putF (pc := 73) hX hin dX8_init_73 fp8_34 rfl rfl (fun _ => rfl) (fun _ => rfl) ?_
  refine dr_aload_n (pc := 76) hX 0 dX8_init_76 rfl rfl ?_
  refine dr_sipush (pc := 77) hX dX8_init_77 sp_1680 ?_
  refine dr_newaI (pc := 80) hX 210 1680 dX8_init_80 rfl rfl (by decide) (by decide) (by decide) (nin_app (nin_app (nin_app (nin_app (nin_app (nin_app (nin_app (nin_app (nin_app (hf 210 (by decide)) (by omega)) (by omega)) (by omega)) (by omega)) (by omega)) (by omega)) (by omega)) (by omega)) (by omega)) (rs_none (rs_none (rs_none (rs_none (rs_none (rs_none (rs_none (rs_none (rs_none (hr 210 (by decide)) (by omega)) (by omega)) (by omega)) (by omega)) (by omega)) (by omega)) (by omega)) (by omega)) (by omega)) (by omega) (by omega) ?_
  refine dr_putF (pc := 82) hX hin dX8_init_82 fp8_37 rfl rfl (fun _ => rfl) (fun _ => rfl) ?_
  refine dr_aload_n (pc := 85) hX 0 dX8_init_85 rfl rfl ?_
  refine dr_bipush (pc := 86) hX dX8_init_86 bp_8 ?_
  refine dr_newaJ (pc := 88) hX 211 8 dX8_init_88 rfl rfl (by decide) (by decide) (by decide) (nin_app (nin_app (nin_app (nin_app (nin_app (nin_app (nin_app (nin_app (nin_app (nin_app (hf 211 (by decide)) (by omega)) (by omega)) (by omega)) (by omega)) (by omega)) (by omega)) (by omega)) (by omega)) (by omega)) (by omega)) (rs_none (rs_none (rs_none (rs_none (rs_none (rs_none (rs_none (rs_none (rs_none (rs_none (hr 211 (by decide)) (by omega)) (by omega)) (by omega)) (by omega)) (by omega)) (by omega)) (by omega)) (by omega)) (by omega)) (by omega)) (by omega) (by omega) ?_
  refine dr_putF (pc := 90) hX hin dX8_init_90 fp8_40 rfl rfl (fun _ => rfl) (fun _ => rfl) ?_
  refine dr_aload_n (pc := 93) hX 0 dX8_init_93 rfl rfl ?_
  refine dr_bipush (pc := 94) hX dX8_init_94 bp_8 ?_
  refine dr_newaJ (pc := 96) hX 212 8 dX8_init_96 rfl rfl (by decide) (by decide) (by decide) (nin_app (nin_app (nin_app (nin_app (nin_app (nin_app (nin_app (nin_app (nin_app (nin_app (nin_app (hf 212 (by decide)) (by omega)) (by omega)) (by omega)) (by omega)) (by omega)) (by omega)) (by omega)) (by omega)) (by omega)) (by omega)) (by omega)) (rs_none (rs_none (rs_none (rs_none (rs_none (rs_none (rs_none (rs_none (rs_none (rs_none (rs_none (hr 212 (by decide)) (by omega)) (by omega)) (by omega)) (by omega)) (by omega)) (by omega)) (by omega)) (by omega)) (by omega)) (by omega)) (by omega)) (by omega) (by omega) ?_
  refine dr_putF (pc := 98) hX hin dX8_init_98 fp8_44 rfl rfl (fun _ => rfl) (fun _ => rfl) ?_
  refine dr_aload_n (pc := 101) hX 0 dX8_init_101 rfl rfl ?_
  refine dr_bipush (pc := 102) hX dX8_init_102 bp_24 ?_
  refine dr_newaI (pc := 104) hX 213 24 dX8_init_104 rfl rfl (by decide) (by decide) (by decide) (nin_app (nin_app (nin_app (nin_app (nin_app (nin_app (nin_app (nin_app (nin_app (nin_app (nin_app (nin_app (hf 213 (by decide)) (by omega)) (by omega)) (by omega)) (by omega)) (by omega)) (by omega)) (by omega)) (by omega)) (by omega)) (by omega)) (by omega)) (by omega)) (rs_none (rs_none (rs_none (rs_none (rs_none (rs_none (rs_none (rs_none (rs_none (rs_none (rs_none (rs_none (hr 213 (by decide)) (by omega)) (by omega)) (by omega)) (by omega)) (by omega)) (by omega)) (by omega)) (by omega)) (by omega)) (by omega)) (by omega)) (by omega)) (by omega) (by omega) ?_
  refine dr_putF (pc := 106) hX hin dX8_init_106 fp8_47 rfl rfl (fun _ => rfl) (fun _ => rfl) ?_
  refine dr_aload_n (pc := 109) hX 0 dX8_init_109 rfl rfl ?_
  refine dr_sipush (pc := 110) hX dX8_init_110 sp_384 ?_
  refine dr_newaZ (pc := 113) hX 214 384 dX8_init_113 rfl rfl (by decide) (by decide) (by decide) (nin_app (nin_app (nin_app (nin_app (nin_app (nin_app (nin_app (nin_app (nin_app (nin_app (nin_app (nin_app (nin_app (hf 214 (by decide)) (by omega)) (by omega)) (by omega)) (by omega)) (by omega)) (by omega)) (by omega)) (by omega)) (by omega)) (by omega)) (by omega)) (by omega)) (by omega)) (rs_none (rs_none (rs_none (rs_none (rs_none (rs_none (rs_none (rs_none (rs_none (rs_none (rs_none (rs_none (rs_none (hr 214 (by decide)) (by omega)) (by omega)) (by omega)) (by omega)) (by omega)) (by omega)) (by omega)) (by omega)) (by omega)) (by omega)) (by omega)) (by omega)) (by omega)) (by omega) (by omega) ?_
  refine dr_putF (pc := 115) hX hin dX8_init_115 fp8_50 rfl rfl (fun _ => rfl) (fun _ => rfl) ?_
  refine dr_aload_n (pc := 118) hX 0 dX8_init_118 rfl rfl ?_
  refine dr_bipush (pc := 119) hX dX8_init_119 bp_24 ?_
  refine dr_newaI (pc := 121) hX 215 24 dX8_init_121 rfl rfl (by decide) (by decide) (by decide) (nin_app (nin_app (nin_app (nin_app (nin_app (nin_app (nin_app (nin_app (nin_app (nin_app (nin_app (nin_app (nin_app (nin_app (hf 215 (by decide)) (by omega)) (by omega)) (by omega)) (by omega)) (by omega)) (by omega)) (by omega)) (by omega)) (by omega)) (by omega)) (by omega)) (by omega)) (by omega)) (by omega)) (rs_none (rs_none (rs_none (rs_none (rs_none (rs_none (rs_none (rs_none (rs_none (rs_none (rs_none (rs_none (rs_none (rs_none (hr 215 (by decide)) (by omega)) (by omega)) (by omega)) (by omega)) (by omega)) (by omega)) (by omega)) (by omega)) (by omega)) (by omega)) (by omega)) (by omega)) (by omega)) (by omega)) (by omega) (by omega) ?_
  refine dr_putF (pc := 123) hX hin dX8_init_123 fp8_54 rfl rfl (fun _ => rfl) (fun _ => rfl) ?_
  refine dr_aload_n (pc := 126) hX 0 dX8_init_126 rfl rfl ?_
  refine dr_bipush (pc := 127) hX dX8_init_127 bp_24 ?_
  refine dr_newaI (pc := 129) hX 216 24 dX8_init_129 rfl rfl (by decide) (by decide) (by decide) (nin_app (nin_app (nin_app (nin_app (nin_app (nin_app (nin_app (nin_app (nin_app (nin_app (nin_app (nin_app (nin_app (nin_app (nin_app (hf 216 (by decide)) (by omega)) (by omega)) (by omega)) (by omega)) (by omega)) (by omega)) (by omega)) (by omega)) (by omega)) (by omega)) (by omega)) (by omega)) (by omega)) (by omega)) (by omega)) (rs_none (rs_none (rs_none (rs_none (rs_none (rs_none (rs_none (rs_none (rs_none (rs_none (rs_none (rs_none (rs_none (rs_none (rs_none (hr 216 (by decide)) (by omega)) (by omega)) (by omega)) (by omega)) (by omega)) (by omega)) (by omega)) (by omega)) (by omega)) (by omega)) (by omega)) (by omega)) (by omega)) (by omega)) (by omega)) (by omega) (by omega) ?_
  refine dr_putF (pc := 131) hX hin dX8_init_131 fp8_57 rfl rfl (fun _ => rfl) (fun _ => rfl) ?_
  refine dr_aload_n (pc := 134) hX 0 dX8_init_134 rfl rfl ?_
  refine dr_bipush (pc := 135) hX dX8_init_135 bp_24 ?_
  refine dr_newaI (pc := 137) hX 217 24 dX8_init_137 rfl rfl (by decide) (by decide) (by decide) (nin_app (nin_app (nin_app (nin_app (nin_app (nin_app (nin_app (nin_app (nin_app (nin_app (nin_app (nin_app (nin_app (nin_app (nin_app (nin_app (hf 217 (by decide)) (by omega)) (by omega)) (by omega)) (by omega)) (by omega)) (by omega)) (by omega)) (by omega)) (by omega)) (by omega)) (by omega)) (by omega)) (by omega)) (by omega)) (by omega)) (by omega)) (rs_none (rs_none (rs_none (rs_none (rs_none (rs_none (rs_none (rs_none (rs_none (rs_none (rs_none (rs_none (rs_none (rs_none (rs_none (rs_none (hr 217 (by decide)) (by omega)) (by omega)) (by omega)) (by omega)) (by omega)) (by omega)) (by omega)) (by omega)) (by omega)) (by omega)) (by omega)) (by omega)) (by omega)) (by omega)) (by omega)) (by omega)) (by omega) (by omega) ?_
  refine dr_putF (pc := 139) hX hin dX8_init_139 fp8_60 rfl rfl (fun _ => rfl) (fun _ => rfl) ?_
  refine dr_aload_n (pc := 142) hX 0 dX8_init_142 rfl rfl ?_
  refine dr_bipush (pc := 143) hX dX8_init_143 bp_25 ?_
  refine dr_newaI (pc := 145) hX 218 25 dX8_init_145 rfl rfl (by decide) (by decide) (by decide) (nin_app (nin_app (nin_app (nin_app (nin_app (nin_app (nin_app (nin_app (nin_app (nin_app (nin_app (nin_app (nin_app (nin_app (nin_app (nin_app (nin_app (hf 218 (by decide)) (by omega)) (by omega)) (by omega)) (by omega)) (by omega)) (by omega)) (by omega)) (by omega)) (by omega)) (by omega)) (by omega)) (by omega)) (by omega)) (by omega)) (by omega)) (by omega)) (by omega)) (rs_none (rs_none (rs_none (rs_none (rs_none (rs_none (rs_none (rs_none (rs_none (rs_none (rs_none (rs_none (rs_none (rs_none (rs_none (rs_none (rs_none (hr 218 (by decide)) (by omega)) (by omega)) (by omega)) (by omega)) (by omega)) (by omega)) (by omega)) (by omega)) (by omega)) (by omega)) (by omega)) (by omega)) (by omega)) (by omega)) (by omega)) (by omega)) (by omega)) (by omega) (by omega) ?_
  refine dr_putF (pc := 147) hX hin dX8_init_147 fp8_63 rfl rfl (fun _ => rfl) (fun _ => rfl) ?_
  refine dr_aload_n (pc := 150) hX 0 dX8_init_150 rfl rfl ?_
  refine dr_bipush (pc := 151) hX dX8_init_151 bp_24 ?_
  refine dr_newaI (pc := 153) hX 219 24 dX8_init_153 rfl rfl (by decide) (by decide) (by decide) (nin_app (nin_app (nin_app (nin_app (nin_app (nin_app (nin_app (nin_app (nin_app (nin_app (nin_app (nin_app (nin_app (nin_app (nin_app (nin_app (nin_app (nin_app (hf 219 (by decide)) (by omega)) (by omega)) (by omega)) (by omega)) (by omega)) (by omega)) (by omega)) (by omega)) (by omega)) (by omega)) (by omega)) (by omega)) (by omega)) (by omega)) (by omega)) (by omega)) (by omega)) (by omega)) (rs_none (rs_none (rs_none (rs_none (rs_none (rs_none (rs_none (rs_none (rs_none (rs_none (rs_none (rs_none (rs_none (rs_none (rs_none (rs_none (rs_none (rs_none (hr 219 (by decide)) (by omega)) (by omega)) (by omega)) (by omega)) (by omega)) (by omega)) (by omega)) (by omega)) (by omega)) (by omega)) (by omega)) (by omega)) (by omega)) (by omega)) (by omega)) (by omega)) (by omega)) (by omega)) (by omega) (by omega) ?_
  refine dr_putF (pc := 155) hX hin dX8_init_155 fp8_66 rfl rfl (fun _ => rfl) (fun _ => rfl) ?_
  refine dr_aload_n (pc := 158) hX 0 dX8_init_158 rfl rfl ?_
  refine dr_bipush (pc := 159) hX dX8_init_159 bp_24 ?_
  refine dr_newaI (pc := 161) hX 220 24 dX8_init_161 rfl rfl (by decide) (by decide) (by decide) (nin_app (nin_app (nin_app (nin_app (nin_app (nin_app (nin_app (nin_app (nin_app (nin_app (nin_app (nin_app (nin_app (nin_app (nin_app (nin_app (nin_app (nin_app (nin_app (hf 220 (by decide)) (by omega)) (by omega)) (by omega)) (by omega)) (by omega)) (by omega)) (by omega)) (by omega)) (by omega)) (by omega)) (by omega)) (by omega)) (by omega)) (by omega)) (by omega)) (by omega)) (by omega)) (by omega)) (by omega)) (rs_none (rs_none (rs_none (rs_none (rs_none (rs_none (rs_none (rs_none (rs_none (rs_none (rs_none (rs_none (rs_none (rs_none (rs_none (rs_none (rs_none (rs_none (rs_none (hr 220 (by decide)) (by omega)) (by omega)) (by omega)) (by omega)) (by omega)) (by omega)) (by omega)) (by omega)) (by omega)) (by omega)) (by omega)) (by omega)) (by omega)) (by omega)) (by omega)) (by omega)) (by omega)) (by omega)) (by omega)) (by omega) (by omega) ?_
  refine dr_putF (pc := 163) hX hin dX8_init_163 fp8_69 rfl rfl (fun _ => rfl) (fun _ => rfl) ?_
  refine dr_aload_n (pc := 166) hX 0 dX8_init_166 rfl rfl ?_
  refine dr_bipush (pc := 167) hX dX8_init_167 bp_24 ?_
  refine dr_newaI (pc := 169) hX 221 24 dX8_init_169 rfl rfl (by decide) (by decide) (by decide) (nin_app (nin_app (nin_app (nin_app (nin_app (nin_app (nin_app (nin_app (nin_app (nin_app (nin_app (nin_app (nin_app (nin_app (nin_app (nin_app (nin_app (nin_app (nin_app (nin_app (hf 221 (by decide)) (by omega)) (by omega)) (by omega)) (by omega)) (by omega)) (by omega)) (by omega)) (by omega)) (by omega)) (by omega)) (by omega)) (by omega)) (by omega)) (by omega)) (by omega)) (by omega)) (by omega)) (by omega)) (by omega)) (by omega)) (rs_none (rs_none (rs_none (rs_none (rs_none (rs_none (rs_none (rs_none (rs_none (rs_none (rs_none (rs_none (rs_none (rs_none (rs_none (rs_none (rs_none (rs_none (rs_none (rs_none (hr 221 (by decide)) (by omega)) (by omega)) (by omega)) (by omega)) (by omega)) (by omega)) (by omega)) (by omega)) (by omega)) (by omega)) (by omega)) (by omega)) (by omega)) (by omega)) (by omega)) (by omega)) (by omega)) (by omega)) (by omega)) (by omega)) (by omega) (by omega) ?_
  refine dr_putF (pc := 171) hX hin dX8_init_171 fp8_72 rfl rfl (fun _ => rfl) (fun _ => rfl) ?_
  refine dr_aload_n (pc := 174) hX 0 dX8_init_174 rfl rfl ?_
  refine dr_bipush (pc := 175) hX dX8_init_175 bp_24 ?_
  refine dr_newaI (pc := 177) hX 222 24 dX8_init_177 rfl rfl (by decide) (by decide) (by decide) (nin_app (nin_app (nin_app (nin_app (nin_app (nin_app (nin_app (nin_app (nin_app (nin_app (nin_app (nin_app (nin_app (nin_app (nin_app (nin_app (nin_app (nin_app (nin_app (nin_app (nin_app (hf 222 (by decide)) (by omega)) (by omega)) (by omega)) (by omega)) (by omega)) (by omega)) (by omega)) (by omega)) (by omega)) (by omega)) (by omega)) (by omega)) (by omega)) (by omega)) (by omega)) (by omega)) (by omega)) (by omega)) (by omega)) (by omega)) (by omega)) (rs_none (rs_none (rs_none (rs_none (rs_none (rs_none (rs_none (rs_none (rs_none (rs_none (rs_none (rs_none (rs_none (rs_none (rs_none (rs_none (rs_none (rs_none (rs_none (rs_none (rs_none (hr 222 (by decide)) (by omega)) (by omega)) (by omega)) (by omega)) (by omega)) (by omega)) (by omega)) (by omega)) (by omega)) (by omega)) (by omega)) (by omega)) (by omega)) (by omega)) (by omega)) (by omega)) (by omega)) (by omega)) (by omega)) (by omega)) (by omega)) (by omega) (by omega) ?_
  refine dr_putF (pc := 179) hX hin dX8_init_179 fp8_75 rfl rfl (fun _ => rfl) (fun _ => rfl) ?_
  refine dr_Ls (Ls' := Ls ++ [201, 202, 203, 204, 205, 206, 207, 208, 209, 210, 211, 212, 213, 214, 215, 216, 217, 218, 219, 220, 221, 222]) (by simp [List.append_assoc]) ?_
  refine dr_up 200 (by decide) (fun j hj ht => ?_) (fun a ha => by funext j; simp [rs, ha]) (dr_ret (pc := 182) hX hE dX8_init_182)
  have hj : j < 38 := hj
  rcases (show j = 0 ∨ j = 1 ∨ j = 2 ∨ j = 3 ∨ j = 4 ∨ j = 5 ∨ j = 6 ∨ j = 7 ∨ j = 8 ∨ j = 9 ∨ j = 10 ∨ j = 11 ∨ j = 12 ∨ j = 13 ∨ j = 14 ∨ j = 15 ∨ j = 16 ∨ j = 17 ∨ j = 18 ∨ j = 19 ∨ j = 20 ∨ j = 21 ∨ j = 22 ∨ j = 23 ∨ j = 24 ∨ j = 25 ∨ j = 26 ∨ j = 27 ∨ j = 28 ∨ j = 29 ∨ j = 30 ∨ j = 31 ∨ j = 32 ∨ j = 33 ∨ j = 34 ∨ j = 35 ∨ j = 36 ∨ j = 37 by omega) with rfl | rfl | rfl | rfl | rfl | rfl | rfl | rfl | rfl | rfl | rfl | rfl | rfl | rfl | rfl | rfl | rfl | rfl | rfl | rfl | rfl | rfl | rfl | rfl | rfl | rfl | rfl | rfl | rfl | rfl | rfl | rfl | rfl | rfl | rfl | rfl | rfl | rfl
  · exact absurd ht (by decide)
  · exact absurd ht (by decide)
  · exact absurd ht (by decide)
  · rfl
  · rfl
  · rfl
  · rfl
  · rfl
  · rfl
  · rfl
  · rfl
  · rfl
  · rfl
  · exact absurd ht (by decide)
  · exact absurd ht (by decide)
  · exact absurd ht (by decide)
  · exact absurd ht (by decide)
  · exact absurd ht (by decide)
  · exact absurd ht (by decide)
  · exact absurd ht (by decide)
  · rfl
  · rfl
  · exact absurd ht (by decide)
  · exact absurd ht (by decide)
  · exact absurd ht (by decide)
  · exact absurd ht (by decide)
  · rfl
  · rfl
  · rfl
  · exact absurd ht (by decide)
  · rfl
  · rfl
  · exact absurd ht (by decide)
  · rfl
  · rfl
  · rfl
  · rfl
  · rfl
set_option maxHeartbeats 4000000 in
set_option maxRecDepth 100000 in
def hr (r : Nat → Nat → Option Nat) (i : Nat) : Nat → Nat → Option Nat := fun a => if a = 2 then (fun b => if b < i then rg 2 b else none) else if 20 ≤ a ∧ a < 20 + 10 * i then rg a else rs r 1 0 2 a
def SH (a : Nat) : Bool := a == 1 || a == 2 || (decide (20 ≤ a) && decide (a < 100))
theorem hr_at2 {r : Nat → Nat → Option Nat} {i b : Nat} : hr r i 2 b = if b < i then rg 2 b else none := by
  unfold hr; rw [if_pos rfl]
theorem hr_in {r : Nat → Nat → Option Nat} {i a : Nat} (h : 20 ≤ a ∧ a < 20 + 10 * i) : hr r i a = rg a := by
  unfold hr; rw [if_neg (by omega), if_pos h]
theorem hr_out {r : Nat → Nat → Option Nat} {i a : Nat} (h1 : a ≠ 2) (h : ¬ (20 ≤ a ∧ a < 20 + 10 * i)) : hr r i a = rs r 1 0 2 a := by
  unfold hr; rw [if_neg h1, if_neg h]
theorem upS_t {S : Nat → Bool} {r : Nat → Nat → Option Nat} {a : Nat} (h : S a = true) : upS S r a = rg a := by
  unfold upS; rw [if_pos h]
theorem upS_f {S : Nat → Bool} {r : Nat → Nat → Option Nat} {a : Nat} (h : S a = false) : upS S r a = r a := by
  unfold upS; rw [if_neg (by rw [h]; decide)]
theorem rs_o {r : Nat → Nat → Option Nat} {o j n a : Nat} (ha : a ≠ o) : rs r o j n a = r a := by
  funext b; unfold rs; rw [if_neg (fun q => ha q.1)]
theorem hr_next {r : Nat → Nat → Option Nat} {i : Nat} (hi : i < 8) (hr0 : ∀ a, 20 ≤ a → a < 100 → ∀ j, r a j = none) : rs (upS (fun a => a == 20 + 10 * i) (hr r i)) 2 i (20 + 10 * i) = hr r (i + 1) := by
  funext a b
  have h2 : rg 2 i = some (20 + 10 * i) := by
    rcases (show i = 0 ∨ i = 1 ∨ i = 2 ∨ i = 3 ∨ i = 4 ∨ i = 5 ∨ i = 6 ∨ i = 7 by omega) with rfl | rfl | rfl | rfl | rfl | rfl | rfl | rfl <;> rfl
  by_cases ha : a = 2
  · subst ha
    rw [hr_at2]
    by_cases hb : b = i
    · subst hb
      rw [if_pos (Nat.lt_succ_self b), h2]
      unfold rs
      rw [if_pos ⟨rfl, rfl⟩]
    · have e1 : rs (upS (fun a => a == 20 + 10 * i) (hr r i)) 2 i (20 + 10 * i) 2 b = upS (fun a => a == 20 + 10 * i) (hr r i) 2 b := by
        unfold rs; rw [if_neg (fun q => hb q.2)]
      rw [e1, upS_f (by simp; omega), hr_at2]
      by_cases hb2 : b < i
      · rw [if_pos hb2, if_pos (by omega)]
      · rw [if_neg hb2, if_neg (by omega)]
  · rw [rs_o ha]
    by_cases hc : a = 20 + 10 * i
    · subst hc
      rw [upS_t (by simp), hr_in ⟨by omega, by omega⟩]
    · rw [upS_f (by simpa using hc)]
      by_cases h3 : 20 ≤ a ∧ a < 20 + 10 * i
      · rw [hr_in h3, hr_in ⟨h3.1, by omega⟩]
      · rw [hr_out ha h3]
        by_cases h4 : 20 ≤ a ∧ a < 20 + 10 * (i + 1)
        · rw [hr_in h4, rs_none (hr0 a h4.1 (by omega)) (by omega)]
          unfold rg
          have h5 : kd a = 20 := by
            unfold kd
            rw [if_neg (by omega), if_pos (by omega), if_neg (by omega)]
          rw [if_neg (by omega)]
        · rw [hr_out ha h4]
theorem hr_end {r : Nat → Nat → Option Nat} (h1 : ∀ j, r 1 j = none) : hr r 8 = upS SH r := by
  funext a b
  by_cases ha : a = 2
  · subst ha
    rw [hr_at2, upS_t (by decide)]
    by_cases hb : b < 8
    · rw [if_pos hb]
    · rw [if_neg hb]
      unfold rg
      rw [if_neg]
      rintro (⟨q, -⟩ | ⟨-, -, q⟩)
      · exact absurd q (by decide)
      · exact hb q
  · by_cases h3 : 20 ≤ a ∧ a < 20 + 10 * 8
    · rw [hr_in h3, upS_t (by unfold SH; simp; omega)]
    · rw [hr_out ha h3]
      by_cases h4 : a = 1
      · subst h4
        rw [upS_t (by decide)]
        unfold rs
        by_cases hb : b = 0
        · subst hb; rw [if_pos ⟨rfl, rfl⟩]; rfl
        · rw [if_neg (fun q => hb q.2), h1]
          cases hz : rg 1 b with
          | none => rfl
          | some x =>
            exfalso
            obtain ⟨w1, w2⟩ := rg_ref (by decide) hz
            have w1 : b < 3 := w1
            rcases (show b = 1 ∨ b = 2 by omega) with rfl | rfl <;> exact absurd w2 (by decide)
      · rw [upS_f (by unfold SH; simp; omega), rs_o h4]
theorem ci_Hist (Ls : List Nat) (r : Nat → Nat → Option Nat) (ho : 1 ∈ Ls) (hf : ∀ k, (k = 2 ∨ (20 ≤ k ∧ k < 100)) → k ∉ Ls) (hr1 : ∀ j, r 1 j = none) (hr2 : ∀ k, (k = 2 ∨ (20 ≤ k ∧ k < 100)) → ∀ j, r k j = none) : CtI yX2_init cX2_init 2 2 81 1760 1 Ls r (Ls ++ [2] ++ List.range' 20 80) (upS SH r) := by
  refine mk_cti ho (by decide) rfl (by decide) ?_
  intro X hX hin hE
  have loop : ∀ (n i : Nat), i ≤ 8 → 9 ≤ i + n → JD X Ls (Ls ++ [2] ++ List.range' 20 (10 * i)) (hr r i) (1 + 10 * i) (8 + 219 * i) 15 [(1, .int (nI i)), (0, .ref 1)] [] := by
    intro n
    induction n with
    | zero => intro i h1 h2; exact absurd h2 (by omega)
    | succ n ih =>
      intro i hi hin2
      refine dr_iload_n (pc := 15) hX 0 dX2_init_15 rfl rfl ?_
      refine dr_bipush (pc := 16) hX dX2_init_16 bp_8 ?_
      refine dr_icmp_ge (tgt := 40) (pc := 18) hX dX2_init_18 (by decide) (fun hge => ?_) (fun hlt => ?_)
      · have h8 : i = 8 := by
          rcases Nat.lt_or_ge i 8 with q | q
          · exact absurd hge (nI_ge (a := i) (b := 8) q (by decide))
          · omega
        subst h8
        exact dr_req (hr_end hr1) (dr_ret (pc := 40) hX hE dX2_init_40)
      · have h8 : i < 8 := by
          rcases Nat.lt_or_ge i 8 with q | q
          · exact q
          · exact absurd (nI_le (a := 8) (b := i) q (by omega)) hlt
        have hkc : kd (20 + 10 * i) = 1 := kdR (show i < ln 2 from h8)
        have hrn : ∀ a, 20 + 10 * i ≤ a → a < 100 → ∀ j, hr r i a j = none := fun a q1 q2 j => by
          unfold hr
          rw [if_neg (by omega), if_neg (by omega)]
          exact rs_none (hr2 a (Or.inr ⟨by omega, q2⟩)) (by omega) j
        have hfr : ∀ a, 20 + 10 * i ≤ a → a < 100 → a ∉ Ls ++ [2] ++ List.range' 20 (10 * i) := fun a q1 q2 h => by
          rcases List.mem_append.mp h with h | h
          · rcases List.mem_append.mp h with h | h
            · exact hf a (Or.inr ⟨by omega, q2⟩) h
            · rw [List.mem_singleton] at h; omega
          · have := in_range h; omega
        refine dr_aload_n (pc := 21) hX 1 dX2_init_21 rfl rfl ?_
        refine dr_getR (pc := 22) (n := 2) hX dX2_init_22 fp2_11 rfl ?_ ?_
        · unfold hr rs; simp
        refine dr_iload_n (pc := 25) hX 0 dX2_init_25 rfl rfl ?_
        refine dr_new (pc := 26) hX (20 + 10 * i) dX2_init_26 KC1 df1 clX2_9 in_Chart ii_Chart hkc (hfr _ (Nat.le_refl _) (by omega)) (hrn _ (Nat.le_refl _) (by omega)) (by omega) (by omega) ?_
        refine dr_dup (pc := 29) hX dX2_init_29 rfl ?_
        refine dr_callN (pc := 30) hX dX2_init_30 MI_Chart_init rfl IM_Chart_init 1 (by decide) rfl (ci_Chart (20 + 10 * i) hkc _ _ (List.mem_append_right _ (List.mem_singleton.mpr rfl)) (fun k q1 q2 => nin_app (hfr k (by omega) (by omega)) (by omega)) (fun k q1 q2 => hrn k (by omega) (by omega))) (Nat.le_of_ble_eq_true rfl) (by decide) (by omega) (by omega) ?_
        refine dr_aastC (pc := 33) hX dX2_init_33 rfl hkc (vp_in_nI h8 (by decide)) ?_
        refine dr_iinc (pc := 34) hX (x := nI (i + 1)) (L' := [(1, .int (nI (i + 1))), (0, .ref 1)]) 0 dX2_init_34 rfl (nI_1 i) (by decide) rfl ?_
        refine dr_goto (tgt := 15) (pc := 37) hX dX2_init_37 (by decide) ?_
        rw [nI_clamp (show i < 2 ^ 31 by omega)]
        refine dr_req (hr_next h8 (fun a q1 q2 => hr2 a (Or.inr ⟨q1, q2⟩))) ?_
        refine dr_Ls (Ls' := Ls ++ [2] ++ List.range' 20 (10 * (i + 1))) (by rw [range_10]; simp [List.append_assoc]) ?_
        refine dr_wid (kc2 := 1 + 10 * (i + 1)) (ks2 := 8 + 219 * (i + 1)) (by omega) (by omega) ?_
        exact ih (i + 1) (by omega) (by omega)
  refine dr_aload_n (pc := 0) hX 0 dX2_init_0 rfl rfl ?_
  refine dr_objinit (pc := 1) hX dX2_init_1 olX2 (by decide) (by decide) ?_
  refine dr_aload_n (pc := 4) hX 0 dX2_init_4 rfl rfl ?_
  refine dr_bipush (pc := 5) hX dX2_init_5 bp_8 ?_
  refine dr_newqC (pc := 7) hX 2 8 dX2_init_7 clX2_9 rfl rfl (by decide) (by decide) (by decide) (hf 2 (Or.inl rfl)) (hr2 2 (Or.inl rfl)) (by omega) (by omega) ?_
  refine dr_putF (pc := 10) hX hin dX2_init_10 fp2_11 rfl rfl (fun _ => rfl) (fun _ => rfl) ?_
  refine dr_iconst (pc := 13) hX dX2_init_13 ic_0 ?_
  refine dr_istore_n (pc := 14) hX (L' := [(1, .int 0), (0, .ref 1)]) dX2_init_14 rfl (by decide) rfl ?_
  refine dr_req (r' := hr r 0) ?_ ?_
  · funext a b
    unfold hr
    by_cases ha : a = 2
    · subst ha
      rw [if_pos rfl, if_neg (by omega)]
      exact rs_none (hr2 2 (Or.inl rfl)) (by decide) b
    · rw [if_neg ha, if_neg (by omega)]
  refine dr_Ls (Ls' := Ls ++ [2] ++ List.range' 20 (10 * 0)) (by simp) ?_
  exact loop 9 0 (by omega) (by omega)
set_option maxHeartbeats 4000000 in
set_option maxRecDepth 100000 in
def lr (r : Nat → Nat → Option Nat) (i : Nat) : Nat → Nat → Option Nat := fun a => if a = 4 then (fun b => if b < i then rg 4 b else none) else rs (rs r 3 0 4) 3 1 5 a
def SL (a : Nat) : Bool := a == 3 || a == 4
theorem rg4 {i : Nat} (hi : i < 384) : rg 4 i = some (1000 + i) := by
  unfold rg
  rw [if_pos (Or.inr ⟨by decide, by decide, hi⟩)]
  rfl
theorem lr_next {r : Nat → Nat → Option Nat} {i : Nat} (hi : i < 384) : rs (lr r i) 4 i (1000 + i) = lr r (i + 1) := by
  funext a b
  unfold lr
  rw [rs]
  by_cases ha : a = 4
  · subst ha
    rw [if_pos rfl, if_pos rfl]
    by_cases hb : b = i
    · subst hb
      rw [if_pos ⟨rfl, rfl⟩, if_pos (by omega), rg4 hi]
    · rw [if_neg (fun q => hb q.2)]
      by_cases hb2 : b < i
      · rw [if_pos hb2, if_pos (by omega)]
      · rw [if_neg hb2, if_neg (by omega)]
  · rw [if_neg (fun q => ha q.1), if_neg ha, if_neg ha]
theorem dr_lay {X : Cx} {L0 Ls : List Nat} {r : Nat → Nat → Option Nat} {kc ks pc : Nat} {L : List (Nat × Value)} {st : List Value} (h1 : ∀ j, r 3 j = none) (k : JD X L0 Ls (upS SL r) kc ks pc L st) : JD X L0 Ls (lr r 384) kc ks pc L st := by
  have e4 : lr r 384 4 = rg 4 := by
    funext b
    unfold lr
    rw [if_pos rfl]
    by_cases hb : b < 384
    · rw [if_pos hb]
    · rw [if_neg hb]
      unfold rg
      rw [if_neg]
      rintro (⟨q, -⟩ | ⟨-, -, q⟩)
      · exact absurd q (by decide)
      · exact hb q
  have u4 : upS SL r 4 = rg 4 := by unfold upS; rw [if_pos (by decide)]
  have u3 : upS SL r 3 = rg 3 := by unfold upS; rw [if_pos (by decide)]
  have eo : ∀ a, a ≠ 3 → a ≠ 4 → lr r 384 a = upS SL r a := by
    intro a q1 q2
    funext b
    unfold lr upS SL
    rw [if_neg q2, if_neg (by simp [q1, q2])]
    unfold rs
    rw [if_neg (fun w => q1 w.1), if_neg (fun w => q1 w.1)]
  have e3 : ∀ j, j < 3 → ft 3 j = 3 → lr r 384 3 j = rg 3 j := by
    intro j hj ht
    rcases (show j = 0 ∨ j = 1 ∨ j = 2 by omega) with rfl | rfl | rfl
    · rfl
    · rfl
    · exact absurd ht (by decide)
  refine dr_r (fun a _ ad cy => ?_) (fun hc a ha j x h => ?_) k
  · by_cases q : a = 3
    · subst q
      exact ce2_ref (by decide) (fun j hj ht => by rw [u3]; exact e3 j hj ht)
    · by_cases q2 : a = 4
      · subst q2
        exact ce2_congr (fun j => by rw [e4, u4])
      · exact ce2_congr (fun j => by rw [eo a q q2])
  · by_cases q : a = 3
    · subst q
      rw [u3] at h
      obtain ⟨w1, w2⟩ := rg_ref (by decide) h
      exact hc 3 ha j x (by rw [e3 j w1 w2]; exact h)
    · by_cases q2 : a = 4
      · subst q2
        exact hc 4 ha j x (by rw [e4, ← u4]; exact h)
      · exact hc a ha j x (by rw [eo a q q2]; exact h)
theorem ci_Lay (Ls : List Nat) (r : Nat → Nat → Option Nat) (ho : 3 ∈ Ls) (hf : ∀ k, (k = 4 ∨ k = 5 ∨ (1000 ≤ k ∧ k < 1384)) → k ∉ Ls) (hr1 : ∀ j, r 3 j = none) (hr2 : ∀ k, (k = 4 ∨ k = 5 ∨ (1000 ≤ k ∧ k < 1384)) → ∀ j, r k j = none) : CtI yX3_init cX3_init 2 2 386 3864 3 Ls r (Ls ++ [4, 5] ++ List.range' 1000 384) (upS SL r) := by
  refine mk_cti ho (by decide) rfl (by decide) ?_
  intro X hX hin hE
  have loop : ∀ (n i : Nat), i ≤ 384 → 385 ≤ i + n → JD X Ls (Ls ++ [4, 5] ++ List.range' 1000 i) (lr r i) (2 + i) (408 + 9 * i) 24 [(1, .int (nI i)), (0, .ref 3)] [] := by
    intro n
    induction n with
    | zero => intro i h1 h2; exact absurd h2 (by omega)
    | succ n ih =>
      intro i hi hin2
      refine dr_iload_n (pc := 24) hX 0 dX3_init_24 rfl rfl ?_
      refine dr_aload_n (pc := 25) hX 1 dX3_init_25 rfl rfl ?_
      refine dr_getR (pc := 26) (n := 4) hX dX3_init_26 fp3_11 rfl rfl ?_
      refine dr_alen (pc := 29) hX dX3_init_29 rfl ?_
      refine dr_icmp_ge (tgt := 52) (pc := 30) hX dX3_init_30 (by decide) (fun hge => ?_) (fun hlt => ?_)
      · have h8 : i = 384 := by
          rcases Nat.lt_or_ge i 384 with q | q
          · exact absurd hge (nI_ge (a := i) (b := 384) q (by decide))
          · omega
        subst h8
        exact dr_lay hr1 (dr_ret (pc := 52) hX hE dX3_init_52)
      · have h8 : i < 384 := by
          rcases Nat.lt_or_ge i 384 with q | q
          · exact q
          · exact absurd (nI_le (a := 384) (b := i) q (by omega)) hlt
        have hkc : kd (1000 + i) = 0 := kdB (show i < ln 4 from h8)
        have hrn : ∀ j, lr r i (1000 + i) j = none := fun j => by
          unfold lr
          rw [if_neg (by omega)]
          exact rs_none (rs_none (hr2 _ (Or.inr (Or.inr ⟨by omega, by omega⟩))) (by omega)) (by omega) j
        have hfr : 1000 + i ∉ Ls ++ [4, 5] ++ List.range' 1000 i := fun h => by
          rcases List.mem_append.mp h with h | h
          · rcases List.mem_append.mp h with h | h
            · exact hf _ (Or.inr (Or.inr ⟨by omega, by omega⟩)) h
            · simp only [List.mem_cons, List.not_mem_nil, or_false] at h; omega
          · have := in_range h; omega
        refine dr_aload_n (pc := 33) hX 1 dX3_init_33 rfl rfl ?_
        refine dr_getR (pc := 34) (n := 4) hX dX3_init_34 fp3_11 rfl rfl ?_
        refine dr_iload_n (pc := 37) hX 0 dX3_init_37 rfl rfl ?_
        refine dr_new (pc := 38) hX (1000 + i) dX3_init_38 KC0 df0 clX3_9 in_Box ii_Box hkc hfr hrn (by omega) (by omega) ?_
        refine dr_dup (pc := 41) hX dX3_init_41 rfl ?_
        refine dr_callN (pc := 42) hX dX3_init_42 MI_Box_init rfl IM_Box_init 2 (by decide) rfl (ci_Box (1000 + i) _ _ (List.mem_append_right _ (List.mem_singleton.mpr rfl))) (Nat.le_of_ble_eq_true rfl) (by decide) (by omega) (by omega) ?_
        refine dr_aastB (pc := 45) hX dX3_init_45 rfl hkc (vp_in_nI h8 (by decide)) ?_
        refine dr_iinc (pc := 46) hX (x := nI (i + 1)) (L' := [(1, .int (nI (i + 1))), (0, .ref 3)]) 0 dX3_init_46 rfl (nI_1 i) (by decide) rfl ?_
        refine dr_goto (tgt := 24) (pc := 49) hX dX3_init_49 (by decide) ?_
        rw [nI_clamp (show i < 2 ^ 31 by omega)]
        refine dr_req (lr_next h8) ?_
        refine dr_Ls (Ls' := Ls ++ [4, 5] ++ List.range' 1000 (i + 1)) (by rw [range_1]; simp [List.append_assoc]) ?_
        refine dr_wid (kc2 := 2 + (i + 1)) (ks2 := 408 + 9 * (i + 1)) (by omega) (by omega) ?_
        exact ih (i + 1) (by omega) (by omega)
  refine dr_aload_n (pc := 0) hX 0 dX3_init_0 rfl rfl ?_
  refine dr_objinit (pc := 1) hX dX3_init_1 olX3 (by decide) (by decide) ?_
  refine dr_aload_n (pc := 4) hX 0 dX3_init_4 rfl rfl ?_
  refine dr_sipush (pc := 5) hX dX3_init_5 sp_384 ?_
  refine dr_newqB (pc := 8) hX 4 384 dX3_init_8 clX3_9 rfl rfl (by decide) (by decide) (by decide) (hf 4 (Or.inl rfl)) (hr2 4 (Or.inl rfl)) (by omega) (by omega) ?_
  refine dr_putF (pc := 11) hX hin dX3_init_11 fp3_11 rfl rfl (fun _ => rfl) (fun _ => rfl) ?_
  refine dr_aload_n (pc := 14) hX 0 dX3_init_14 rfl rfl ?_
  refine dr_bipush (pc := 15) hX dX3_init_15 bp_24 ?_
  refine dr_newaI (pc := 17) hX 5 24 dX3_init_17 rfl rfl (by decide) (by decide) (by decide) (nin_app (hf 5 (Or.inr (Or.inl rfl))) (by decide)) (rs_none (hr2 5 (Or.inr (Or.inl rfl))) (by decide)) (by omega) (by omega) ?_
  refine dr_putF (pc := 19) hX hin dX3_init_19 fp3_17 rfl rfl (fun _ => rfl) (fun _ => rfl) ?_
  refine dr_iconst (pc := 22) hX dX3_init_22 ic_0 ?_
  refine dr_istore_n (pc := 23) hX (L' := [(1, .int 0), (0, .ref 3)]) dX3_init_23 rfl (by decide) rfl ?_
  refine dr_req (r' := lr r 0) ?_ ?_
  · funext a b
    unfold lr
    by_cases ha : a = 4
    · subst ha
      rw [if_pos rfl, if_neg (by omega)]
      exact rs_none (rs_none (hr2 4 (Or.inl rfl)) (by decide)) (by decide) b
    · rw [if_neg ha]
  refine dr_Ls (Ls' := Ls ++ [4, 5] ++ List.range' 1000 0) (by simp) ?_
  exact loop 385 0 (by omega) (by omega)
