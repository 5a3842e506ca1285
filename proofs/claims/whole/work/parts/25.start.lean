theorem IM_Mo_init : Cond.instanceMethod yX8_init ∈ gt := (tw 748 (by decide +kernel) rfl)
theorem IM_NC_init : Cond.instanceMethod yX7_init ∈ gt := (tw 17 (by decide +kernel) rfl)
theorem MI_Mo_init : MI yX8_init cX8_init 1 none 0 := ⟨(tw 749 (by decide +kernel) rfl), (tw 9 (by decide +kernel) rfl), by decide +kernel, by decide⟩
theorem MI_NC_init : MI yX7_init cX7_init 1 none 0 := ⟨(tw 18 (by decide +kernel) rfl), (tw 1 (by decide +kernel) rfl), by decide +kernel, by decide⟩
theorem clL_10 : Cond.classLink RL 10 RX8 ∈ gt := tw 745 (by decide +kernel) rfl
theorem clL_7 : Cond.classLink RL 7 RX7 ∈ gt := tw 14 (by decide +kernel) rfl
theorem df7 : ∀ j, j < 10 → defaultValue (tyX7 j) = (if ft 7 j < 2 then Value.int 0 else if ft 7 j = 2 then Value.long 0 else Value.null) := by
  intro j hj
  rcases (show j = 0 ∨ j = 1 ∨ j = 2 ∨ j = 3 ∨ j = 4 ∨ j = 5 ∨ j = 6 ∨ j = 7 ∨ j = 8 ∨ j = 9 by omega) with rfl | rfl | rfl | rfl | rfl | rfl | rfl | rfl | rfl | rfl <;> rfl
theorem df8 : ∀ j, j < 38 → defaultValue (tyX8 j) = (if ft 8 j < 2 then Value.int 0 else if ft 8 j = 2 then Value.long 0 else Value.null) := by
  intro j hj
  rcases (show j = 0 ∨ j = 1 ∨ j = 2 ∨ j = 3 ∨ j = 4 ∨ j = 5 ∨ j = 6 ∨ j = 7 ∨ j = 8 ∨ j = 9 ∨ j = 10 ∨ j = 11 ∨ j = 12 ∨ j = 13 ∨ j = 14 ∨ j = 15 ∨ j = 16 ∨ j = 17 ∨ j = 18 ∨ j = 19 ∨ j = 20 ∨ j = 21 ∨ j = 22 ∨ j = 23 ∨ j = 24 ∨ j = 25 ∨ j = 26 ∨ j = 27 ∨ j = 28 ∨ j = 29 ∨ j = 30 ∨ j = 31 ∨ j = 32 ∨ j = 33 ∨ j = 34 ∨ j = 35 ∨ j = 36 ∨ j = 37 by omega) with rfl | rfl | rfl | rfl | rfl | rfl | rfl | rfl | rfl | rfl | rfl | rfl | rfl | rfl | rfl | rfl | rfl | rfl | rfl | rfl | rfl | rfl | rfl | rfl | rfl | rfl | rfl | rfl | rfl | rfl | rfl | rfl | rfl | rfl | rfl | rfl | rfl | rfl <;> rfl
theorem ii_Mo : Cond.initialized RX8 ∈ gt := (tw 9 (by decide +kernel) rfl)
theorem ii_NC : Cond.initialized RX7 ∈ gt := (tw 1 (by decide +kernel) rfl)
theorem in_Mo : Cond.instantiable RX8 38 ∈ gt := tw 746 (by decide +kernel) rfl
theorem in_NC : Cond.instantiable RX7 10 ∈ gt := tw 15 (by decide +kernel) rfl
theorem lkL_12 : Cond.methodLink RL 12 yX8_init ∈ gt := (tw 747 (by decide +kernel) rfl)
theorem lkL_9 : Cond.methodLink RL 9 yX7_init ∈ gt := (tw 16 (by decide +kernel) rfl)
def LE : List Nat := NCL ++ [200] ++ [201, 202, 203, 204, 205, 206, 207, 208, 209, 210, 211, 212, 213, 214, 215, 216, 217, 218, 219, 220, 221, 222]
def rE : Nat → Nat → Option Nat := upS (fun a => a == 200) rNC
theorem kd_lt {o : Nat} (h : kd o ≠ 99) : o < 1388 := List.mem_range.mp (List.mem_filter.mp (Lv_in h)).1
theorem LE_in {o : Nat} (h : kd o ≠ 99) : o ∈ LE := by
  have key : ((List.range 1388).filter (fun o => kd o != 99)).all (fun o => LE.contains o) = true := by decide +kernel
  have h1 := List.all_eq_true.mp key o (Lv_in h)
  simpa using h1
theorem rE_o {o : Nat} (h : kd o < 9) (h0 : kd o ≠ 0) : rE o = rg o := by
  have key : (List.range 1388).all (fun o => decide (kd o < 9) == false || decide (kd o = 0) || [0, 1, 3, 6, 9, 10, 20, 30, 40, 50, 60, 70, 80, 90, 105, 200].contains o) = true := by decide +kernel
  have h1 := List.all_eq_true.mp key o (List.mem_range.mpr (kd_lt (by omega)))
  have h2 : [0, 1, 3, 6, 9, 10, 20, 30, 40, 50, 60, 70, 80, 90, 105, 200].contains o = true := by
    simp only [Bool.or_eq_true] at h1
    rcases h1 with (q | q) | q
    · simp [h] at q
    · simp [h0] at q
    · exact q
  have h3 : o = 0 ∨ o = 1 ∨ o = 3 ∨ o = 6 ∨ o = 9 ∨ o = 10 ∨ o = 20 ∨ o = 30 ∨ o = 40 ∨ o = 50 ∨ o = 60 ∨ o = 70 ∨ o = 80 ∨ o = 90 ∨ o = 105 ∨ o = 200 := by simpa using h2
  rcases h3 with rfl | rfl | rfl | rfl | rfl | rfl | rfl | rfl | rfl | rfl | rfl | rfl | rfl | rfl | rfl | rfl <;> rfl
theorem arrV_cg {cA : ClassId} {n : Nat} {f g : Nat → Value} (h : ∀ j, j < n → f j = g j) : arrV cA n f = arrV cA n g := by
  unfold arrV
  congr 2
  funext j
  exact h j.val j.isLt
theorem world_end {D : va_G} {cy : Nat → ClassId} {ad : Nat → Nat} {H : Heap} (hP : va_P D vwCl (ws2 cy ad rE LE) H) : va_P D vwCl (wsW cy ad mZ) H := by
  intro k q hq
  unfold wsW at hq
  rw [List.getElem?_map] at hq
  cases hx : Lv[k]? with
  | none => rw [hx] at hq; cases hq
  | some o =>
    rw [hx] at hq
    cases hq
    have ho := Lv_kd hx
    obtain ⟨k2, -, h2⟩ := ws2_get (cy := cy) (ad := ad) (r := rE) (LE_in ho)
    have h3 := hP k2 _ h2
    show va_at D vwCl (ad o, cel cy ad mZ o) H
    rw [← ce2_rf]
    by_cases h9 : kd o < 9
    · have e : ce2 cy ad rE o = ce2 cy ad rf o := by
        refine ce2_ref h9 (fun j hj ht => ?_)
        by_cases h0 : kd o = 0
        · rw [h0] at hj ht
          have hj : j < 9 := hj
          rcases (show j = 0 ∨ j = 1 ∨ j = 2 ∨ j = 3 ∨ j = 4 ∨ j = 5 ∨ j = 6 ∨ j = 7 ∨ j = 8 by omega) with rfl | rfl | rfl | rfl | rfl | rfl | rfl | rfl | rfl <;> exact absurd ht (by decide)
        · rw [rE_o h9 h0]
          unfold rg
          rw [if_pos (Or.inl ⟨h9, ht⟩)]
      rw [← e]
      exact h3
    · by_cases ha : kd o = 20 ∨ kd o = 21 ∨ kd o = 22
      · rw [ce2_arr (r := rf) (r' := rE) ha]
        exact h3
      · have key : (List.range 1388).all (fun o => decide (kd o < 9) || decide (kd o = 20) || decide (kd o = 21) || decide (kd o = 22) || decide (kd o = 99) || decide (o = 2) || decide (o = 4)) = true := by decide +kernel
        have h1 := List.all_eq_true.mp key o (List.mem_range.mpr (kd_lt ho))
        have h4 : o = 2 ∨ o = 4 := by
          simp only [Bool.or_eq_true, decide_eq_true_eq] at h1
          rcases h1 with (((((q | q) | q) | q) | q) | q) | q
          · exact absurd q h9
          · exact absurd (Or.inl q) ha
          · exact absurd (Or.inr (Or.inl q)) ha
          · exact absurd (Or.inr (Or.inr q)) ha
          · exact absurd q ho
          · exact Or.inl q
          · exact Or.inr q
        rcases h4 with rfl | rfl
        · have h5 : H[ad 2]? = some (vp_cell (cy 4) (8, .inr (.inr (.inr (.inr (fun i => (rE 2 i).map ad)))))) := h3
          show H[ad 2]? = some (vp_cell (cy 4) (8, .inr (.inr (.inr (.inr (fun i => (rf 2 i).map ad))))))
          rw [h5, vp_cell_q, vp_cell_q]
          refine congrArg some (arrV_cg (fun j hj => ?_))
          have : rE 2 j = rf 2 j := by
            show rg 2 j = rf 2 j
            unfold rg
            rw [if_pos (Or.inr ⟨by decide, by decide, hj⟩)]
          rw [this]
        · have h5 : H[ad 4]? = some (vp_cell (cy 3) (384, .inr (.inr (.inr (.inr (fun i => (rE 4 i).map ad)))))) := h3
          show H[ad 4]? = some (vp_cell (cy 3) (384, .inr (.inr (.inr (.inr (fun i => (rf 4 i).map ad))))))
          rw [h5, vp_cell_q, vp_cell_q]
          refine congrArg some (arrV_cg (fun j hj => ?_))
          have : rE 4 j = rf 4 j := by
            show rg 4 j = rf 4 j
            unfold rg
            rw [if_pos (Or.inr ⟨by decide, by decide, hj⟩)]
          rw [this]
theorem sta_0 {args : Array Value} {s : State} {A : Nat → Prop} (h : (Jvm.Cond.and given_1 narrow_1).before args s = true) (hA : ∀ a : Nat, a < s.heap.size → ¬ A a) : ∃ t : Nat, (Term.static "NameChart" "ACROSS" "[I").eval args s none [] s = some (.ref t) ∧ va_T .int t 8 (fun j => .int (stt 0 j)) A s s.heap := by
  have hs := flat_of_before _ h
  refine va_Tof (by decide) (hs (Cond.arrayOf (.static "NameChart" "ACROSS" "[I") .int) (by decide +kernel)) (va_eqt (hs (Cond.eq (.length (.static "NameChart" "ACROSS" "[I")) (.int 8)) (by decide +kernel))) (fun j hj => ?_) hA
  rcases (show j = 0 ∨ j = 1 ∨ j = 2 ∨ j = 3 ∨ j = 4 ∨ j = 5 ∨ j = 6 ∨ j = 7 by omega) with rfl | rfl | rfl | rfl | rfl | rfl | rfl | rfl
  · exact va_eqt (hs (Cond.eq (.elem (.static "NameChart" "ACROSS" "[I") (.int 0)) (.int 1)) (by decide +kernel))
  · exact va_eqt (hs (Cond.eq (.elem (.static "NameChart" "ACROSS" "[I") (.int 1)) (.int (-1))) (by decide +kernel))
  · exact va_eqt (hs (Cond.eq (.elem (.static "NameChart" "ACROSS" "[I") (.int 2)) (.int (-1))) (by decide +kernel))
  · exact va_eqt (hs (Cond.eq (.elem (.static "NameChart" "ACROSS" "[I") (.int 3)) (.int 1)) (by decide +kernel))
  · exact va_eqt (hs (Cond.eq (.elem (.static "NameChart" "ACROSS" "[I") (.int 4)) (.int 1)) (by decide +kernel))
  · exact va_eqt (hs (Cond.eq (.elem (.static "NameChart" "ACROSS" "[I") (.int 5)) (.int (-1))) (by decide +kernel))
  · exact va_eqt (hs (Cond.eq (.elem (.static "NameChart" "ACROSS" "[I") (.int 6)) (.int 0)) (by decide +kernel))
  · exact va_eqt (hs (Cond.eq (.elem (.static "NameChart" "ACROSS" "[I") (.int 7)) (.int 0)) (by decide +kernel))
theorem sta_1 {args : Array Value} {s : State} {A : Nat → Prop} (h : (Jvm.Cond.and given_1 narrow_1).before args s = true) (hA : ∀ a : Nat, a < s.heap.size → ¬ A a) : ∃ t : Nat, (Term.static "NameChart" "DOWN" "[I").eval args s none [] s = some (.ref t) ∧ va_T .int t 8 (fun j => .int (stt 1 j)) A s s.heap := by
  have hs := flat_of_before _ h
  refine va_Tof (by decide) (hs (Cond.arrayOf (.static "NameChart" "DOWN" "[I") .int) (by decide +kernel)) (va_eqt (hs (Cond.eq (.length (.static "NameChart" "DOWN" "[I")) (.int 8)) (by decide +kernel))) (fun j hj => ?_) hA
  rcases (show j = 0 ∨ j = 1 ∨ j = 2 ∨ j = 3 ∨ j = 4 ∨ j = 5 ∨ j = 6 ∨ j = 7 by omega) with rfl | rfl | rfl | rfl | rfl | rfl | rfl | rfl
  · exact va_eqt (hs (Cond.eq (.elem (.static "NameChart" "DOWN" "[I") (.int 0)) (.int (-1))) (by decide +kernel))
  · exact va_eqt (hs (Cond.eq (.elem (.static "NameChart" "DOWN" "[I") (.int 1)) (.int (-1))) (by decide +kernel))
  · exact va_eqt (hs (Cond.eq (.elem (.static "NameChart" "DOWN" "[I") (.int 2)) (.int 1)) (by decide +kernel))
  · exact va_eqt (hs (Cond.eq (.elem (.static "NameChart" "DOWN" "[I") (.int 3)) (.int 1)) (by decide +kernel))
  · exact va_eqt (hs (Cond.eq (.elem (.static "NameChart" "DOWN" "[I") (.int 4)) (.int 0)) (by decide +kernel))
  · exact va_eqt (hs (Cond.eq (.elem (.static "NameChart" "DOWN" "[I") (.int 5)) (.int 0)) (by decide +kernel))
  · exact va_eqt (hs (Cond.eq (.elem (.static "NameChart" "DOWN" "[I") (.int 6)) (.int (-1))) (by decide +kernel))
  · exact va_eqt (hs (Cond.eq (.elem (.static "NameChart" "DOWN" "[I") (.int 7)) (.int 1)) (by decide +kernel))
theorem sta_2 {args : Array Value} {s : State} {A : Nat → Prop} (h : (Jvm.Cond.and given_1 narrow_1).before args s = true) (hA : ∀ a : Nat, a < s.heap.size → ¬ A a) : ∃ t : Nat, (Term.static "NameChart" "TURNED_BY_PRICE" "[I").eval args s none [] s = some (.ref t) ∧ va_T .int t 16 (fun j => .int (stt 2 j)) A s s.heap := by
  have hs := flat_of_before _ h
  refine va_Tof (by decide) (hs (Cond.arrayOf (.static "NameChart" "TURNED_BY_PRICE" "[I") .int) (by decide +kernel)) (va_eqt (hs (Cond.eq (.length (.static "NameChart" "TURNED_BY_PRICE" "[I")) (.int 16)) (by decide +kernel))) (fun j hj => ?_) hA
  rcases (show j = 0 ∨ j = 1 ∨ j = 2 ∨ j = 3 ∨ j = 4 ∨ j = 5 ∨ j = 6 ∨ j = 7 ∨ j = 8 ∨ j = 9 ∨ j = 10 ∨ j = 11 ∨ j = 12 ∨ j = 13 ∨ j = 14 ∨ j = 15 by omega) with rfl | rfl | rfl | rfl | rfl | rfl | rfl | rfl | rfl | rfl | rfl | rfl | rfl | rfl | rfl | rfl
  · exact va_eqt (hs (Cond.eq (.elem (.static "NameChart" "TURNED_BY_PRICE" "[I") (.int 0)) (.int 0)) (by decide +kernel))
  · exact va_eqt (hs (Cond.eq (.elem (.static "NameChart" "TURNED_BY_PRICE" "[I") (.int 1)) (.int 1)) (by decide +kernel))
  · exact va_eqt (hs (Cond.eq (.elem (.static "NameChart" "TURNED_BY_PRICE" "[I") (.int 2)) (.int 2)) (by decide +kernel))
  · exact va_eqt (hs (Cond.eq (.elem (.static "NameChart" "TURNED_BY_PRICE" "[I") (.int 3)) (.int 3)) (by decide +kernel))
  · exact va_eqt (hs (Cond.eq (.elem (.static "NameChart" "TURNED_BY_PRICE" "[I") (.int 4)) (.int 4)) (by decide +kernel))
  · exact va_eqt (hs (Cond.eq (.elem (.static "NameChart" "TURNED_BY_PRICE" "[I") (.int 5)) (.int 8)) (by decide +kernel))
  · exact va_eqt (hs (Cond.eq (.elem (.static "NameChart" "TURNED_BY_PRICE" "[I") (.int 6)) (.int 5)) (by decide +kernel))
  · exact va_eqt (hs (Cond.eq (.elem (.static "NameChart" "TURNED_BY_PRICE" "[I") (.int 7)) (.int 9)) (by decide +kernel))
  · exact va_eqt (hs (Cond.eq (.elem (.static "NameChart" "TURNED_BY_PRICE" "[I") (.int 8)) (.int 6)) (by decide +kernel))
  · exact va_eqt (hs (Cond.eq (.elem (.static "NameChart" "TURNED_BY_PRICE" "[I") (.int 9)) (.int 10)) (by decide +kernel))
  · exact va_eqt (hs (Cond.eq (.elem (.static "NameChart" "TURNED_BY_PRICE" "[I") (.int 10)) (.int 7)) (by decide +kernel))
  · exact va_eqt (hs (Cond.eq (.elem (.static "NameChart" "TURNED_BY_PRICE" "[I") (.int 11)) (.int 11)) (by decide +kernel))
  · exact va_eqt (hs (Cond.eq (.elem (.static "NameChart" "TURNED_BY_PRICE" "[I") (.int 12)) (.int 12)) (by decide +kernel))
  · exact va_eqt (hs (Cond.eq (.elem (.static "NameChart" "TURNED_BY_PRICE" "[I") (.int 13)) (.int 13)) (by decide +kernel))
  · exact va_eqt (hs (Cond.eq (.elem (.static "NameChart" "TURNED_BY_PRICE" "[I") (.int 14)) (.int 14)) (by decide +kernel))
  · exact va_eqt (hs (Cond.eq (.elem (.static "NameChart" "TURNED_BY_PRICE" "[I") (.int 15)) (.int 15)) (by decide +kernel))
theorem sta_3 {args : Array Value} {s : State} {A : Nat → Prop} (h : (Jvm.Cond.and given_1 narrow_1).before args s = true) (hA : ∀ a : Nat, a < s.heap.size → ¬ A a) : ∃ t : Nat, (Term.static "NameChart" "TURNED_RANK" "[I").eval args s none [] s = some (.ref t) ∧ va_T .int t 16 (fun j => .int (stt 3 j)) A s s.heap := by
  have hs := flat_of_before _ h
  refine va_Tof (by decide) (hs (Cond.arrayOf (.static "NameChart" "TURNED_RANK" "[I") .int) (by decide +kernel)) (va_eqt (hs (Cond.eq (.length (.static "NameChart" "TURNED_RANK" "[I")) (.int 16)) (by decide +kernel))) (fun j hj => ?_) hA
  rcases (show j = 0 ∨ j = 1 ∨ j = 2 ∨ j = 3 ∨ j = 4 ∨ j = 5 ∨ j = 6 ∨ j = 7 ∨ j = 8 ∨ j = 9 ∨ j = 10 ∨ j = 11 ∨ j = 12 ∨ j = 13 ∨ j = 14 ∨ j = 15 by omega) with rfl | rfl | rfl | rfl | rfl | rfl | rfl | rfl | rfl | rfl | rfl | rfl | rfl | rfl | rfl | rfl
  · exact va_eqt (hs (Cond.eq (.elem (.static "NameChart" "TURNED_RANK" "[I") (.int 0)) (.int 0)) (by decide +kernel))
  · exact va_eqt (hs (Cond.eq (.elem (.static "NameChart" "TURNED_RANK" "[I") (.int 1)) (.int 1)) (by decide +kernel))
  · exact va_eqt (hs (Cond.eq (.elem (.static "NameChart" "TURNED_RANK" "[I") (.int 2)) (.int 2)) (by decide +kernel))
  · exact va_eqt (hs (Cond.eq (.elem (.static "NameChart" "TURNED_RANK" "[I") (.int 3)) (.int 3)) (by decide +kernel))
  · exact va_eqt (hs (Cond.eq (.elem (.static "NameChart" "TURNED_RANK" "[I") (.int 4)) (.int 4)) (by decide +kernel))
  · exact va_eqt (hs (Cond.eq (.elem (.static "NameChart" "TURNED_RANK" "[I") (.int 5)) (.int 6)) (by decide +kernel))
  · exact va_eqt (hs (Cond.eq (.elem (.static "NameChart" "TURNED_RANK" "[I") (.int 6)) (.int 8)) (by decide +kernel))
  · exact va_eqt (hs (Cond.eq (.elem (.static "NameChart" "TURNED_RANK" "[I") (.int 7)) (.int 10)) (by decide +kernel))
  · exact va_eqt (hs (Cond.eq (.elem (.static "NameChart" "TURNED_RANK" "[I") (.int 8)) (.int 5)) (by decide +kernel))
  · exact va_eqt (hs (Cond.eq (.elem (.static "NameChart" "TURNED_RANK" "[I") (.int 9)) (.int 7)) (by decide +kernel))
  · exact va_eqt (hs (Cond.eq (.elem (.static "NameChart" "TURNED_RANK" "[I") (.int 10)) (.int 9)) (by decide +kernel))
  · exact va_eqt (hs (Cond.eq (.elem (.static "NameChart" "TURNED_RANK" "[I") (.int 11)) (.int 11)) (by decide +kernel))
  · exact va_eqt (hs (Cond.eq (.elem (.static "NameChart" "TURNED_RANK" "[I") (.int 12)) (.int 12)) (by decide +kernel))
  · exact va_eqt (hs (Cond.eq (.elem (.static "NameChart" "TURNED_RANK" "[I") (.int 13)) (.int 13)) (by decide +kernel))
  · exact va_eqt (hs (Cond.eq (.elem (.static "NameChart" "TURNED_RANK" "[I") (.int 14)) (.int 14)) (by decide +kernel))
  · exact va_eqt (hs (Cond.eq (.elem (.static "NameChart" "TURNED_RANK" "[I") (.int 15)) (.int 15)) (by decide +kernel))
theorem ls_0 : Cond.laysStatic "NameChart" "ACROSS" "[I" ∈ lw_tbl := by decide +kernel
theorem ls_1 : Cond.laysStatic "NameChart" "DOWN" "[I" ∈ lw_tbl := by decide +kernel
theorem ls_2 : Cond.laysStatic "NameChart" "TURNED_BY_PRICE" "[I" ∈ lw_tbl := by decide +kernel
theorem ls_3 : Cond.laysStatic "NameChart" "TURNED_RANK" "[I" ∈ lw_tbl := by decide +kernel
set_option maxHeartbeats 8000000 in
set_option maxRecDepth 100000 in
theorem whole_open (hF : ∀ (L : Nat) (xs : Nat → Int32), L ≤ 3072 → lawF L xs mZ = some 1) {p : Program} {e : Env} {s : State} {m : MethodId} {below : List Frame} {meth : Method} {c : Code} (l : Launch) {b L : Nat} {xs : Nat → Int32} (hL : L ≤ 3072) (C0 : lw_At p s m meth c b L xs) : W p l e room_1 s m #[Value.ref b] below meth c s.heap [] 0 0 (lw_Z below #[Value.ref b] s) (entryFrame m ([Value.ref b] : List Value).toArray 4) := by
  obtain ⟨hx, hb, hr, hml, hown, hts, hX, hbl, hlocks, hgv⟩ := C0
  have htg : ∀ w ∈ gt, w.before #[Value.ref b] s = true := fun w h => hts w (List.mem_filter.mp h).1
  generalize hAe : (fun q : Nat => s.heap.size ≤ q) = A
  have hA : ∀ q : Nat, s.heap.size ≤ q → A q := fun q h => by rw [← hAe]; exact h
  have hA2 : ∀ q : Nat, A q → s.heap.size ≤ q := fun q h => by rw [← hAe] at h; exact h
  have hnA : ∀ a : Nat, a < s.heap.size → ¬ A a := fun a h q => by have := hA2 a q; omega
  obtain ⟨c0, iS0, hKn0⟩ := u_known (C := RX0) (T := TX0) (N := 9) (n := 9) htg KC0.2.1 (htg _ in_Box)
  obtain ⟨c1, iS1, hKn1⟩ := u_known (C := RX1) (T := TX1) (N := 11) (n := 11) htg KC1.2.1 (htg _ in_Chart)
  obtain ⟨c2, iS2, hKn2⟩ := u_known (C := RX2) (T := TX2) (N := 3) (n := 3) htg KC2.2.1 (htg _ in_Hist)
  obtain ⟨c3, iS3, hKn3⟩ := u_known (C := RX3) (T := TX3) (N := 3) (n := 3) htg KC3.2.1 (htg _ in_Lay)
  obtain ⟨c4, iS4, hKn4⟩ := u_known (C := RX4) (T := TX4) (N := 5) (n := 5) htg KC4.2.1 (htg _ in_Parts)
  obtain ⟨c5, iS5, hKn5⟩ := u_known (C := RX5) (T := TX5) (N := 6) (n := 6) htg KC5.2.1 (htg _ in_Plan)
  obtain ⟨c6, iS6, hKn6⟩ := u_known (C := RX6) (T := TX6) (N := 10) (n := 10) htg KC6.2.1 (htg _ in_Search)
  obtain ⟨c7, iS7, hKn7⟩ := u_known (C := RX7) (T := TX7) (N := 10) (n := 10) htg KC7.2.1 (htg _ in_NC)
  obtain ⟨c8, iS8, hKn8⟩ := u_known (C := RX8) (T := TX8) (N := 38) (n := 38) htg KC8.2.1 (htg _ in_Mo)
  obtain ⟨dC, dI, hKc⟩ : ∃ (dC : Nat → ClassId) (dI : Nat → Nat → Nat), ∀ (k : Nat) (q : vw_C), vwCl[k]? = some q → u_Kn s q.1 q.2.1 q.2.2 (dC k) (dI k) := by
    refine ⟨fun k => match k with | 0 => c0 | 1 => c1 | 2 => c2 | 3 => c3 | 4 => c4 | 5 => c5 | 6 => c6 | 7 => c7 | _ => c8, fun k => match k with | 0 => iS0 | 1 => iS1 | 2 => iS2 | 3 => iS3 | 4 => iS4 | 5 => iS5 | 6 => iS6 | 7 => iS7 | _ => iS8, ?_⟩
    intro k q hq
    match k, hq with
    | 0, hq => cases hq; exact hKn0
    | 1, hq => cases hq; exact hKn1
    | 2, hq => cases hq; exact hKn2
    | 3, hq => cases hq; exact hKn3
    | 4, hq => cases hq; exact hKn4
    | 5, hq => cases hq; exact hKn5
    | 6, hq => cases hq; exact hKn6
    | 7, hq => cases hq; exact hKn7
    | 8, hq => cases hq; exact hKn8
    | k + 9, hq => simp [vwCl] at hq
  obtain ⟨cI, kI, pI, aI1, aI2, aI3⟩ := Cond.arrayClass_spec (htg _ arc_I)
  obtain ⟨cJ, kJ, pJ, aJ1, aJ2, aJ3⟩ := Cond.arrayClass_spec (htg _ arc_J)
  obtain ⟨cZ, kZ, pZ, aZ1, aZ2, aZ3⟩ := Cond.arrayClass_spec (htg _ arc_Z)
  have hAOB : va_AO RX0 s := va_AO.of (hts (.arrayOver (.object RX0)) (by decide +kernel))
  have hAOC : va_AO RX1 s := va_AO.of (hts (.arrayOver (.object RX1)) (by decide +kernel))
  obtain ⟨pB, cB, kB, b1, -, b3, b4, b5⟩ := Cond.arrayOver_spec hAOB
  obtain ⟨pC, cC, kC, e1, -, e3, e4, e5⟩ := Cond.arrayOver_spec hAOC
  obtain ⟨cy, hcy⟩ : ∃ cy : Nat → ClassId, cy 0 = cI ∧ cy 1 = cJ ∧ cy 2 = cZ ∧ cy 3 = cB ∧ cy 4 = cC := ⟨fun k => match k with | 0 => cI | 1 => cJ | 2 => cZ | 3 => cB | _ => cC, rfl, rfl, rfl, rfl, rfl⟩
  obtain ⟨y0, y1, y2, y3, y4⟩ := hcy
  have hK : va_K (dC, dI) vwCl (tys cy) s := by
    refine ⟨hKc, fun k q hk => ?_⟩
    match k, hk with
    | 0, hk => cases hk; rw [y0]; exact ⟨fun n z => ⟨fun k h => (by cases h), kI, aI2, pI, aI3⟩, aI1⟩
    | 1, hk => cases hk; rw [y1]; exact ⟨fun n z => ⟨fun k h => (by cases h), kJ, aJ2, pJ, aJ3⟩, aJ1⟩
    | 2, hk => cases hk; rw [y2]; exact ⟨fun n z => ⟨fun k h => (by cases h), kZ, aZ2, pZ, aZ3⟩, aZ1⟩
    | 3, hk => cases hk; rw [y3]; exact ⟨fun n z => ⟨fun k h => (by cases h), kB, b3, pB, b4⟩, kB, pB, b3, b4, b1, b5⟩
    | 4, hk => cases hk; rw [y4]; exact ⟨fun n z => ⟨fun k h => (by cases h), kC, e3, pC, e4⟩, kC, pC, e3, e4, e1, e5⟩
    | k + 5, hk => simp [tys] at hk
  have hN : ∀ k, k < 8 → va_Nw (nmw k) s := by
    intro k hk
    have hm : nmw k ∈ lw_tbl := by
      have key : (List.range 8).all (fun k => decide (nmw k ∈ lw_tbl)) = true := by decide +kernel
      simpa using List.all_eq_true.mp key k (List.mem_range.mpr hk)
    exact va_Nw.of (nmw_on hk) (hts _ hm)
  obtain ⟨t0, v0, w0⟩ := sta_0 hgv hnA
  obtain ⟨t1, v1, w1⟩ := sta_1 hgv hnA
  obtain ⟨t2, v2, w2⟩ := sta_2 hgv hnA
  obtain ⟨t3, v3, w3⟩ := sta_3 hgv hnA
  obtain ⟨sad, u0, u1, u2, u3⟩ : ∃ sad : Nat → Nat, sad 0 = t0 ∧ sad 1 = t1 ∧ sad 2 = t2 ∧ sad 3 = t3 := ⟨fun k => match k with | 0 => t0 | 1 => t1 | 2 => t2 | _ => t3, rfl, rfl, rfl, rfl⟩
  have hSt : Sts A sad s s.heap := by
    intro k hk
    have hm : nsw k ∈ lw_tbl := by
      have key : (List.range 4).all (fun k => decide (nsw k ∈ lw_tbl)) = true := by decide +kernel
      simpa using List.all_eq_true.mp key k (List.mem_range.mpr hk)
    have hon : (nsw k).onTables = true := by
      rcases (show k = 0 ∨ k = 1 ∨ k = 2 ∨ k = 3 by omega) with rfl | rfl | rfl | rfl <;> rfl
    refine ⟨?_, ?_, va_Nw.of hon (hts _ hm)⟩
    · rcases (show k = 0 ∨ k = 1 ∨ k = 2 ∨ k = 3 by omega) with rfl | rfl | rfl | rfl
      · rw [u0]; exact va_Zref (hts _ ls_0) (htg _ ii_NC) v0 hnA
      · rw [u1]; exact va_Zref (hts _ ls_1) (htg _ ii_NC) v1 hnA
      · rw [u2]; exact va_Zref (hts _ ls_2) (htg _ ii_NC) v2 hnA
      · rw [u3]; exact va_Zref (hts _ ls_3) (htg _ ii_NC) v3 hnA
    · rcases (show k = 0 ∨ k = 1 ∨ k = 2 ∨ k = 3 by omega) with rfl | rfl | rfl | rfl
      · rw [u0]; exact w0
      · rw [u1]; exact w1
      · rw [u2]; exact w2
      · rw [u3]; exact w3
  have hS : va_S A s.heap s.heap [] := va_S.rf
  have hP : va_P (dC, dI) vwCl (ws2 cy (fun _ => 0) rN []) s.heap := fun k q h => by simp [ws2] at h
  have hAp : Ap2 A (fun _ => 0) [] := ⟨List.nodup_nil, fun o h => absurd h List.not_mem_nil, fun o h => absurd h List.not_mem_nil⟩
  have hCl : Cl rN [] := fun o h => absurd h List.not_mem_nil
  have hl := lv_entry ([.ref b]) (n := 4) (Nat.le_of_ble_eq_true rfl)
  rw [lg_entry_eq]
  generalize (lg_sl ([.ref b]) ++ List.replicate (4 - (lg_sl ([.ref b])).length) Slot.unset).toArray = ls at hl ⊢
  have hl : lv_has ls 4 [(0, .ref b)] := hl
  -- new NameChart
  refine va_new (ci := 7) (fs := fs2 (fun _ => 0) rN 0) (C := RX7) (T := TX7) (N := 10) hx hb htg KC7.2.1 tyX7 tyX7_ok hown (htg _ clL_7) (htg _ in_NC) (htg _ ii_NC) hK hP (hAp.D cy rN) hS hA rfl (fun j hj => by rw [df7 j hj]; rcases (show j = 0 ∨ j = 1 ∨ j = 2 ∨ j = 3 ∨ j = 4 ∨ j = 5 ∨ j = 6 ∨ j = 7 ∨ j = 8 ∨ j = 9 by omega) with rfl | rfl | rfl | rfl | rfl | rfl | rfl | rfl | rfl | rfl <;> rfl) (by decide) (by decide) dL_law_0 (fun q0 H1 hP1 hD1 hS1 => ?_)
  obtain ⟨g1, hAp1, -, hCl1⟩ := ws2_push hCl hAp (n := 0) List.not_mem_nil (fun _ => rfl) (fun ad' => rfl) hD1
  rw [g1] at hP1
  have q0e : va_up (fun _ => 0) 0 q0 0 = q0 := by unfold va_up; rw [if_pos rfl]
  refine lv_dup hx hb dL_law_3 rfl ?_
  refine W.widen (k := 1) (n := 10) (by omega) (by omega) ?_
  have run1 := va_runI (As := []) (rest := [.ref q0]) (n := 0) (g := F0 m 4 ls [.ref q0, .ref q0]) (H := H1) (locs := []) (cells := 1) (slots := 10) (below := below) (meth := meth) (e := e) (R := room_1) ⟨hx, hb, hml, hown, htg⟩ (ci_NC l (dC, dI) cy (va_up (fun _ => 0) 0 q0) A) (cwI 0 htg (gd_y MI_NC_init.1) rfl rfl rfl (htg _ MI_NC_init.2.1) (htg _ lkL_9) (htg _ IM_NC_init) rfl MI_NC_init.2.2.1 ⟨by decide, by decide⟩) ⟨PD.blind, fun U hU hW => ⟨rfl, by rw [hU]; exact hP1, va_K.moved hW.alike hK, hAp1, hCl1, fun q hq => hA q (Nat.le_trans hS1.1 (by rw [hU] at hq; exact hq)), hAOB.moved hW.alike, hAOC.moved hW.alike, fun k hk => nmw_warm hk hW (hN k hk)⟩⟩ rfl rfl hl.1 (by rw [q0e]; rfl) (lv_room (Nat.le_of_ble_eq_true rfl)) dL_law_4 ⟨by decide, by decide⟩
  refine callD run1 hS1 (fun ad1 H2 locs2 z1 hP2 hAp2 hCl2 z2 hS2 => ?_)
  have ad1_0 : ad1 0 = q0 := (z1 0 (by decide)).trans q0e
  refine W.widen (k := 1000) (n := 10000) (by omega) (by omega) ?_
  refine lv_astore_n (lv' := [(1, .ref q0), (0, .ref b)]) hx hb dL_law_7 rfl hl (by decide) rfl (fun ls hl => ?_)
  -- new NameChartModel
  refine va_new (ci := 8) (fs := fs2 ad1 rNC 200) (C := RX8) (T := TX8) (N := 38) hx hb htg KC8.2.1 tyX8 tyX8_ok hown (htg _ clL_10) (htg _ in_Mo) (htg _ ii_Mo) hK hP2 (hAp2.D cy rNC) hS2 hA rfl (fun j hj => by rw [df8 j hj]; rcases (show j = 0 ∨ j = 1 ∨ j = 2 ∨ j = 3 ∨ j = 4 ∨ j = 5 ∨ j = 6 ∨ j = 7 ∨ j = 8 ∨ j = 9 ∨ j = 10 ∨ j = 11 ∨ j = 12 ∨ j = 13 ∨ j = 14 ∨ j = 15 ∨ j = 16 ∨ j = 17 ∨ j = 18 ∨ j = 19 ∨ j = 20 ∨ j = 21 ∨ j = 22 ∨ j = 23 ∨ j = 24 ∨ j = 25 ∨ j = 26 ∨ j = 27 ∨ j = 28 ∨ j = 29 ∨ j = 30 ∨ j = 31 ∨ j = 32 ∨ j = 33 ∨ j = 34 ∨ j = 35 ∨ j = 36 ∨ j = 37 by omega) with rfl | rfl | rfl | rfl | rfl | rfl | rfl | rfl | rfl | rfl | rfl | rfl | rfl | rfl | rfl | rfl | rfl | rfl | rfl | rfl | rfl | rfl | rfl | rfl | rfl | rfl | rfl | rfl | rfl | rfl | rfl | rfl | rfl | rfl | rfl | rfl | rfl | rfl <;> rfl) (by decide) (by decide) dL_law_8 (fun q8 H3 hP3 hD3 hS3 => ?_)
  obtain ⟨g3, hAp3, ag3, hCl3⟩ := ws2_push hCl2 hAp2 (n := 200) (by decide +kernel) (fun _ => rfl) (fun ad' => rfl) hD3
  rw [g3] at hP3
  have q8e : va_up ad1 200 q8 200 = q8 := by unfold va_up; rw [if_pos rfl]
  refine lv_dup hx hb dL_law_11 rfl ?_
  refine W.widen (k := 1001) (n := 10038) (by omega) (by omega) ?_
  have run2 := va_runI (As := []) (rest := [.ref q8]) (n := 0) (g := F0 m 12 ls [.ref q8, .ref q8]) (H := H3) (locs := locs2) (cells := 1001) (slots := 10038) (below := below) (meth := meth) (e := e) (R := room_1) ⟨hx, hb, hml, hown, htg⟩ (ci_Mo (NCL ++ [200]) rNC (List.mem_append_right _ (List.mem_singleton.mpr rfl)) (by decide +kernel) (fun k hk j => by simp only [List.mem_cons, List.not_mem_nil, or_false] at hk; rcases hk with rfl | rfl | rfl | rfl | rfl | rfl | rfl | rfl | rfl | rfl | rfl | rfl | rfl | rfl | rfl | rfl | rfl | rfl | rfl | rfl | rfl | rfl <;> rfl) l (dC, dI) cy (va_up ad1 200 q8) A) (cwI 0 htg (gd_y MI_Mo_init.1) rfl rfl rfl (htg _ MI_Mo_init.2.1) (htg _ lkL_12) (htg _ IM_Mo_init) rfl MI_Mo_init.2.2.1 ⟨by decide, by decide⟩) ⟨PD.blind, fun U hU hW => ⟨rfl, by rw [hU]; exact hP3, va_K.moved hW.alike hK, hAp3, hCl3, fun q hq => hA q (Nat.le_trans hS3.1 (by rw [hU] at hq; exact hq)), hAOB.moved hW.alike, hAOC.moved hW.alike, fun k hk => nmw_warm hk hW (hN k hk)⟩⟩ rfl rfl hl.1 (by rw [q8e]; rfl) (lv_room (Nat.le_of_ble_eq_true rfl)) dL_law_12 ⟨by decide, by decide⟩
  refine callD run2 hS3 (fun ad3 H4 locs4 z3 hP4 hAp4 hCl4 z4 hS4 => ?_)
  have ad3_200 : ad3 200 = q8 := (z3 200 (List.mem_append_right _ (List.mem_singleton.mpr rfl))).trans q8e
  have ad3_0 : ad3 0 = q0 := by
    have hm : (0 : Nat) ∈ NCL := by decide +kernel
    rw [z3 0 (List.mem_append_left _ hm), ag3 0 hm, ad1_0]
  refine lv_astore_n (lv' := [(2, .ref q8), (1, .ref q0), (0, .ref b)]) hx hb dL_law_15 rfl hl (by decide) rfl (fun ls hl => ?_)
  refine W.widen (k := 600000) (n := 7302250) (by decide) (by decide) ?_
  have hP5 : va_P (dC, dI) vwCl (wsW cy ad3 mZ) H4 := world_end hP4
  have hAp5 : Ap A ad3 := ⟨fun o o' h h' => hAp4.2.1 o (LE_in h) o' (LE_in h'), fun o h => hAp4.2.2 o (LE_in h)⟩
  have hJ := law_J (X := (p, l, e, room_1, s, m, #[Value.ref b], below, meth, c, (dC, dI), cy, ad3, A, sad, 600000, 7302250, (some (.int 1), mZ), lw_Z below #[Value.ref b] s)) (b := b) (sL := L) (xs := xs) mZ ⟨hx, hb, hml, hown, htg, hK, hAp5, hSt, hlocks, by decide, by decide, Nat.le_refl _, Nat.le_refl _⟩ ⟨hX, hbl, hnA b hbl⟩ ⟨rfl, rfl, hr, rfl, rfl, rfl, rfl, hA2⟩
  have hl2 : lv_has ls c.maxLocals [(2, .ref (ad3 200)), (1, .ref (ad3 0)), (0, .ref b)] := by rw [hml, ad3_200, ad3_0]; exact hl
  exact hJ 1 (hF L xs hL) rfl H4 locs4 ls hP5 hS4 hl2
