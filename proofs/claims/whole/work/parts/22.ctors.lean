/-- where the references go, and nothing else -/
def rg (o j : Nat) : Option Nat := if (kd o < 9 ∧ ft (kd o) j = 3) ∨ (22 < kd o ∧ kd o < 25 ∧ j < ln o) then rf o j else none
def upS (S : Nat → Bool) (r : Nat → Nat → Option Nat) : Nat → Nat → Option Nat := fun a => if S a = true then rg a else r a
theorem dr_Ls {X : Cx} {L0 Ls Ls' : List Nat} {r : Nat → Nat → Option Nat} {kc ks pc : Nat} {L : List (Nat × Value)} {st : List Value} (h : Ls = Ls') (k : JD X L0 Ls' r kc ks pc L st) : JD X L0 Ls r kc ks pc L st := h ▸ k
theorem rs_none {r : Nat → Nat → Option Nat} {o j n a : Nat} (h : ∀ b, r a b = none) (ha : a ≠ o) : ∀ b, rs r o j n a b = none := fun b => by unfold rs; rw [if_neg (fun q => ha q.1)]; exact h b
theorem ce2_ref {cy : Nat → ClassId} {ad : Nat → Nat} {r r' : Nat → Nat → Option Nat} {o : Nat} (h9 : kd o < 9) (h : ∀ j, j < nf (kd o) → ft (kd o) j = 3 → r o j = r' o j) : ce2 cy ad r o = ce2 cy ad r' o := by
  rw [ce2_o h9, ce2_o h9]
  congr 2
  unfold fs2
  apply List.map_congr_left
  intro j hj
  unfold sv2
  by_cases h1 : ft (kd o) j < 2
  · rw [if_pos h1, if_pos h1]
  · rw [if_neg h1, if_neg h1]
    by_cases h2 : ft (kd o) j = 2
    · rw [if_pos h2, if_pos h2]
    · rw [if_neg h2, if_neg h2]
      have hj2 := List.mem_range.mp hj
      have h3 : ft (kd o) j = 3 ∨ ft (kd o) j = 9 := by
        have hk : kd o = 0 ∨ kd o = 1 ∨ kd o = 2 ∨ kd o = 3 ∨ kd o = 4 ∨ kd o = 5 ∨ kd o = 6 ∨ kd o = 7 ∨ kd o = 8 := by omega
        generalize kd o = k at hj2 h1 h2 hk ⊢
        have key : ∀ k, k < 9 → ∀ j, j < nf k → ft k j < 2 ∨ ft k j = 2 ∨ ft k j = 3 := by decide +kernel
        rcases key k (by omega) j hj2 with q | q | q
        · exact absurd q h1
        · exact absurd q h2
        · exact Or.inl q
      rcases h3 with q | q
      · rw [h j hj2 q]
      · have key : ∀ k, k < 9 → ∀ j, j < nf k → ft k j ≠ 9 := by decide +kernel
        exact absurd q (key _ h9 j hj2)
theorem ce2_arr {cy : Nat → ClassId} {ad : Nat → Nat} {r r' : Nat → Nat → Option Nat} {o : Nat} (h : kd o = 20 ∨ kd o = 21 ∨ kd o = 22) : ce2 cy ad r o = ce2 cy ad r' o := by
  unfold ce2
  rcases h with q | q | q <;> rw [q] <;> rfl
theorem rgC2 {c : Nat} (h : kd c = 1) : rg c 2 = some (c + 1) := by
  unfold rg
  rw [if_pos (Or.inl ⟨by omega, by rw [h]; rfl⟩)]
  exact rfC2 h
theorem rgC3 {c : Nat} (h : kd c = 1) : rg c 3 = some (c + 2) := by
  unfold rg
  rw [if_pos (Or.inl ⟨by omega, by rw [h]; rfl⟩)]
  exact rfC3 h
theorem rgC4 {c : Nat} (h : kd c = 1) : rg c 4 = some (c + 3) := by
  unfold rg
  rw [if_pos (Or.inl ⟨by omega, by rw [h]; rfl⟩)]
  exact rfC4 h
theorem rgC5 {c : Nat} (h : kd c = 1) : rg c 5 = some (c + 4) := by
  unfold rg
  rw [if_pos (Or.inl ⟨by omega, by rw [h]; rfl⟩)]
  exact rfC5 h
theorem rgC6 {c : Nat} (h : kd c = 1) : rg c 6 = some (c + 5) := by
  unfold rg
  rw [if_pos (Or.inl ⟨by omega, by rw [h]; rfl⟩)]
  exact rfC6 h
theorem rgC7 {c : Nat} (h : kd c = 1) : rg c 7 = some (c + 6) := by
  unfold rg
  rw [if_pos (Or.inl ⟨by omega, by rw [h]; rfl⟩)]
  exact rfC7 h
theorem rgC8 {c : Nat} (h : kd c = 1) : rg c 8 = some (c + 7) := by
  unfold rg
  rw [if_pos (Or.inl ⟨by omega, by rw [h]; rfl⟩)]
  exact rfC8 h
theorem rgC9 {c : Nat} (h : kd c = 1) : rg c 9 = some (c + 8) := by
  unfold rg
  rw [if_pos (Or.inl ⟨by omega, by rw [h]; rfl⟩)]
  exact rfC9 h
theorem rgC10 {c : Nat} (h : kd c = 1) : rg c 10 = some (c + 9) := by
  unfold rg
  rw [if_pos (Or.inl ⟨by omega, by rw [h]; rfl⟩)]
  exact rfC10 h
theorem rgO {c j : Nat} (h : kd c = 1) (hj : ¬ (2 ≤ j ∧ j ≤ 10)) : rg c j = none := by
  unfold rg
  rw [if_neg]
  rintro (⟨-, q⟩ | ⟨q, -⟩)
  · rw [h] at q
    have : j < 2 ∨ 11 ≤ j := by omega
    rcases this with w | w
    · rcases (show j = 0 ∨ j = 1 by omega) with rfl | rfl <;> exact absurd q (by decide)
    · unfold ft at q
      rw [List.getD_eq_getElem?_getD, List.getElem?_eq_none (by exact w)] at q
      exact absurd q (by decide)
  · omega
theorem lnC1 {c : Nat} (h : kd c = 1) : ln (c + 1) = 24 := by
  rcases chart_no h with rfl | rfl | rfl | rfl | rfl | rfl | rfl | rfl | rfl <;> rfl
theorem lnC2 {c : Nat} (h : kd c = 1) : ln (c + 2) = 24 := by
  rcases chart_no h with rfl | rfl | rfl | rfl | rfl | rfl | rfl | rfl | rfl <;> rfl
theorem lnC3 {c : Nat} (h : kd c = 1) : ln (c + 3) = 24 := by
  rcases chart_no h with rfl | rfl | rfl | rfl | rfl | rfl | rfl | rfl | rfl <;> rfl
theorem lnC4 {c : Nat} (h : kd c = 1) : ln (c + 4) = 24 := by
  rcases chart_no h with rfl | rfl | rfl | rfl | rfl | rfl | rfl | rfl | rfl <;> rfl
theorem lnC5 {c : Nat} (h : kd c = 1) : ln (c + 5) = 24 := by
  rcases chart_no h with rfl | rfl | rfl | rfl | rfl | rfl | rfl | rfl | rfl <;> rfl
theorem lnC6 {c : Nat} (h : kd c = 1) : ln (c + 6) = 24 := by
  rcases chart_no h with rfl | rfl | rfl | rfl | rfl | rfl | rfl | rfl | rfl <;> rfl
theorem lnC7 {c : Nat} (h : kd c = 1) : ln (c + 7) = 24 := by
  rcases chart_no h with rfl | rfl | rfl | rfl | rfl | rfl | rfl | rfl | rfl <;> rfl
theorem lnC8 {c : Nat} (h : kd c = 1) : ln (c + 8) = 20 := by
  rcases chart_no h with rfl | rfl | rfl | rfl | rfl | rfl | rfl | rfl | rfl <;> rfl
theorem lnC9 {c : Nat} (h : kd c = 1) : ln (c + 9) = 20 := by
  rcases chart_no h with rfl | rfl | rfl | rfl | rfl | rfl | rfl | rfl | rfl <;> rfl

theorem olX0 : Cond.methodLink RX0 3 objectInit ∈ gt := tw 118 (by decide +kernel) rfl
theorem olX1 : Cond.methodLink RX1 3 objectInit ∈ gt := tw 27 (by decide +kernel) rfl
set_option maxHeartbeats 4000000 in
set_option maxRecDepth 100000 in
theorem ci_Box (n : Nat) (Ls : List Nat) (r : Nat → Nat → Option Nat) (ho : n ∈ Ls) : CtI yX0_init cX0_init 1 1 0 0 n Ls r Ls r := by
  refine mk_cti ho (by decide) rfl (by decide) ?_
  intro X hX hin hE
  refine dr_aload_n (pc := 0) hX 0 dX0_init_0 rfl rfl ?_
  refine dr_objinit (pc := 1) hX dX0_init_1 olX0 (by decide) (by decide) ?_
  exact dr_ret (pc := 4) hX hE dX0_init_4
set_option maxHeartbeats 4000000 in
set_option maxRecDepth 100000 in
theorem ci_Chart (c : Nat) (hc : kd c = 1) (Ls : List Nat) (r : Nat → Nat → Option Nat) (ho : c ∈ Ls) (hf : ∀ k, c < k → k ≤ c + 9 → k ∉ Ls) (hr : ∀ k, c < k → k ≤ c + 9 → ∀ j, r k j = none) (hr0 : ∀ j, r c j = none) (hcl : Cl r Ls) : CtI yX1_init cX1_init 1 1 9 208 c Ls r (Ls ++ [c + 1, c + 2, c + 3, c + 4, c + 5, c + 6, c + 7, c + 8, c + 9]) (upS (fun a => a == c) r) := by
  refine mk_cti ho (by decide) rfl (by decide) ?_
  intro X hX hin hE
  refine dr_aload_n (pc := 0) hX 0 dX1_init_0 rfl rfl ?_
  refine dr_objinit (pc := 1) hX dX1_init_1 olX1 (by decide) (by decide) ?_
  refine dr_aload_n (pc := 4) hX 0 dX1_init_4 rfl rfl ?_
  refine dr_bipush (pc := 5) hX dX1_init_5 bp_24 ?_
  refine dr_newaI (pc := 7) hX (c + 1) 24 dX1_init_7 (kdC1 hc) (lnC1 hc) (by decide) (by decide) (by decide) (hf _ (by omega) (by omega)) (hr _ (by omega) (by omega)) (by omega) (by omega) ?_
  refine dr_putF (pc := 9) hX hin dX1_init_9 fp1_9 hc rfl (fun _ => rfl) (fun _ => rfl) ?_
  refine dr_aload_n (pc := 12) hX 0 dX1_init_12 rfl rfl ?_
  refine dr_bipush (pc := 13) hX dX1_init_13 bp_24 ?_
  refine dr_newaI (pc := 15) hX (c + 2) 24 dX1_init_15 (kdC2 hc) (lnC2 hc) (by decide) (by decide) (by decide) (nin_app (hf _ (by omega) (by omega)) (by omega)) (rs_none (hr _ (by omega) (by omega)) (by omega)) (by omega) (by omega) ?_
  refine dr_putF (pc := 17) hX hin dX1_init_17 fp1_15 hc rfl (fun _ => rfl) (fun _ => rfl) ?_
  refine dr_aload_n (pc := 20) hX 0 dX1_init_20 rfl rfl ?_
  refine dr_bipush (pc := 21) hX dX1_init_21 bp_24 ?_
  refine dr_newaI (pc := 23) hX (c + 3) 24 dX1_init_23 (kdC3 hc) (lnC3 hc) (by decide) (by decide) (by decide) (nin_app (nin_app (hf _ (by omega) (by omega)) (by omega)) (by omega)) (rs_none (rs_none (hr _ (by omega) (by omega)) (by omega)) (by omega)) (by omega) (by omega) ?_
  refine dr_putF (pc := 25) hX hin dX1_init_25 fp1_18 hc rfl (fun _ => rfl) (fun _ => rfl) ?_
  refine dr_aload_n (pc := 28) hX 0 dX1_init_28 rfl rfl ?_
  refine dr_bipush (pc := 29) hX dX1_init_29 bp_24 ?_
  refine dr_newaI (pc := 31) hX (c + 4) 24 dX1_init_31 (kdC4 hc) (lnC4 hc) (by decide) (by decide) (by decide) (nin_app (nin_app (nin_app (hf _ (by omega) (by omega)) (by omega)) (by omega)) (by omega)) (rs_none (rs_none (rs_none (hr _ (by omega) (by omega)) (by omega)) (by omega)) (by omega)) (by omega) (by omega) ?_
  refine dr_putF (pc := 33) hX hin dX1_init_33 fp1_21 hc rfl (fun _ => rfl) (fun _ => rfl) ?_
  refine dr_aload_n (pc := 36) hX 0 dX1_init_36 rfl rfl ?_
  refine dr_bipush (pc := 37) hX dX1_init_37 bp_24 ?_
  refine dr_newaI (pc := 39) hX (c + 5) 24 dX1_init_39 (kdC5 hc) (lnC5 hc) (by decide) (by decide) (by decide) (nin_app (nin_app (nin_app (nin_app (hf _ (by omega) (by omega)) (by omega)) (by omega)) (by omega)) (by omega)) (rs_none (rs_none (rs_none (rs_none (hr _ (by omega) (by omega)) (by omega)) (by omega)) (by omega)) (by omega)) (by omega) (by omega) ?_
  refine dr_putF (pc := 41) hX hin dX1_init_41 fp1_24 hc rfl (fun _ => rfl) (fun _ => rfl) ?_
  refine dr_aload_n (pc := 44) hX 0 dX1_init_44 rfl rfl ?_
  refine dr_bipush (pc := 45) hX dX1_init_45 bp_24 ?_
  refine dr_newaI (pc := 47) hX (c + 6) 24 dX1_init_47 (kdC6 hc) (lnC6 hc) (by decide) (by decide) (by decide) (nin_app (nin_app (nin_app (nin_app (nin_app (hf _ (by omega) (by omega)) (by omega)) (by omega)) (by omega)) (by omega)) (by omega)) (rs_none (rs_none (rs_none (rs_none (rs_none (hr _ (by omega) (by omega)) (by omega)) (by omega)) (by omega)) (by omega)) (by omega)) (by omega) (by omega) ?_
  refine dr_putF (pc := 49) hX hin dX1_init_49 fp1_27 hc rfl (fun _ => rfl) (fun _ => rfl) ?_
  refine dr_aload_n (pc := 52) hX 0 dX1_init_52 rfl rfl ?_
  refine dr_bipush (pc := 53) hX dX1_init_53 bp_24 ?_
  refine dr_newaI (pc := 55) hX (c + 7) 24 dX1_init_55 (kdC7 hc) (lnC7 hc) (by decide) (by decide) (by decide) (nin_app (nin_app (nin_app (nin_app (nin_app (nin_app (hf _ (by omega) (by omega)) (by omega)) (by omega)) (by omega)) (by omega)) (by omega)) (by omega)) (rs_none (rs_none (rs_none (rs_none (rs_none (rs_none (hr _ (by omega) (by omega)) (by omega)) (by omega)) (by omega)) (by omega)) (by omega)) (by omega)) (by omega) (by omega) ?_
  refine dr_putF (pc := 57) hX hin dX1_init_57 fp1_30 hc rfl (fun _ => rfl) (fun _ => rfl) ?_
  refine dr_aload_n (pc := 60) hX 0 dX1_init_60 rfl rfl ?_
  refine dr_bipush (pc := 61) hX dX1_init_61 bp_20 ?_
  refine dr_newaI (pc := 63) hX (c + 8) 20 dX1_init_63 (kdC8 hc) (lnC8 hc) (by decide) (by decide) (by decide) (nin_app (nin_app (nin_app (nin_app (nin_app (nin_app (nin_app (hf _ (by omega) (by omega)) (by omega)) (by omega)) (by omega)) (by omega)) (by omega)) (by omega)) (by omega)) (rs_none (rs_none (rs_none (rs_none (rs_none (rs_none (rs_none (hr _ (by omega) (by omega)) (by omega)) (by omega)) (by omega)) (by omega)) (by omega)) (by omega)) (by omega)) (by omega) (by omega) ?_
  refine dr_putF (pc := 65) hX hin dX1_init_65 fp1_33 hc rfl (fun _ => rfl) (fun _ => rfl) ?_
  refine dr_aload_n (pc := 68) hX 0 dX1_init_68 rfl rfl ?_
  refine dr_bipush (pc := 69) hX dX1_init_69 bp_20 ?_
  refine dr_newaI (pc := 71) hX (c + 9) 20 dX1_init_71 (kdC9 hc) (lnC9 hc) (by decide) (by decide) (by decide) (nin_app (nin_app (nin_app (nin_app (nin_app (nin_app (nin_app (nin_app (hf _ (by omega) (by omega)) (by omega)) (by omega)) (by omega)) (by omega)) (by omega)) (by omega)) (by omega)) (by omega)) (rs_none (rs_none (rs_none (rs_none (rs_none (rs_none (rs_none (rs_none (hr _ (by omega) (by omega)) (by omega)) (by omega)) (by omega)) (by omega)) (by omega)) (by omega)) (by omega)) (by omega)) (by omega) (by omega) ?_
  refine dr_putF (pc := 73) hX hin dX1_init_73 fp1_36 hc rfl (fun _ => rfl) (fun _ => rfl) ?_
  refine dr_Ls (Ls' := Ls ++ [c + 1, c + 2, c + 3, c + 4, c + 5, c + 6, c + 7, c + 8, c + 9]) (by simp [List.append_assoc]) ?_
  refine dr_r (r' := upS (fun a => a == c) r) (fun o ho2 ad cy => ?_) ?_ (dr_ret (pc := 76) hX hE dX1_init_76)
  · by_cases hoc : o = c
    · subst hoc
      refine ce2_ref (by omega) (fun j hj ht => ?_)
      rw [hc] at hj ht
      have hj : j < 11 := hj
      have hu : upS (fun a => a == o) r o = rg o := by unfold upS; simp
      rw [hu]
      rcases (show j = 0 ∨ j = 1 ∨ j = 2 ∨ j = 3 ∨ j = 4 ∨ j = 5 ∨ j = 6 ∨ j = 7 ∨ j = 8 ∨ j = 9 ∨ j = 10 by omega) with rfl | rfl | rfl | rfl | rfl | rfl | rfl | rfl | rfl | rfl | rfl
      · exact absurd ht (by decide)
      · exact absurd ht (by decide)
      · rw [rgC2 hc]; simp [rs]
      · rw [rgC3 hc]; simp [rs]
      · rw [rgC4 hc]; simp [rs]
      · rw [rgC5 hc]; simp [rs]
      · rw [rgC6 hc]; simp [rs]
      · rw [rgC7 hc]; simp [rs]
      · rw [rgC8 hc]; simp [rs]
      · rw [rgC9 hc]; simp [rs]
      · rw [rgC10 hc]; simp [rs]
    · exact ce2_congr (fun j => by simp [rs, upS, hoc])
  · intro o ho2 j o' h
    unfold upS at h
    by_cases hoc : o = c
    · subst hoc
      simp only [beq_self_eq_true, if_true] at h
      rcases List.mem_append.mp ho2 with q | q
      · by_cases hj : 2 ≤ j ∧ j ≤ 10
        · rcases (show j = 2 ∨ j = 3 ∨ j = 4 ∨ j = 5 ∨ j = 6 ∨ j = 7 ∨ j = 8 ∨ j = 9 ∨ j = 10 by omega) with rfl | rfl | rfl | rfl | rfl | rfl | rfl | rfl | rfl
          · rw [rgC2 hc] at h; cases h; simp
          · rw [rgC3 hc] at h; cases h; simp
          · rw [rgC4 hc] at h; cases h; simp
          · rw [rgC5 hc] at h; cases h; simp
          · rw [rgC6 hc] at h; cases h; simp
          · rw [rgC7 hc] at h; cases h; simp
          · rw [rgC8 hc] at h; cases h; simp
          · rw [rgC9 hc] at h; cases h; simp
          · rw [rgC10 hc] at h; cases h; simp
        · exact absurd h (by rw [rgO hc hj]; intro q; cases q)
      · exfalso; simp at q
    · simp only [beq_iff_eq, hoc, if_false] at h
      rcases List.mem_append.mp ho2 with q | q
      · exact List.mem_append_left _ (hcl o q j o' h)
      · have : r o j = none := by
          simp only [List.mem_cons, List.not_mem_nil, or_false] at q
          exact hr o (by omega) (by omega) j
        rw [this] at h
        cases h
