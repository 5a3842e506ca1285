theorem IM_Hist_init : Cond.instanceMethod yX2_init ∈ gt := (tw 89 (by decide +kernel) rfl)
theorem IM_Lay_init : Cond.instanceMethod yX3_init ∈ gt := (tw 109 (by decide +kernel) rfl)
theorem IM_Parts_init : Cond.instanceMethod yX4_init ∈ gt := (tw 167 (by decide +kernel) rfl)
theorem IM_Plan_init : Cond.instanceMethod yX5_init ∈ gt := (tw 233 (by decide +kernel) rfl)
theorem IM_Search_init : Cond.instanceMethod yX6_init ∈ gt := (tw 194 (by decide +kernel) rfl)
theorem MI_Hist_init : MI yX2_init cX2_init 2 none 0 := ⟨(tw 90 (by decide +kernel) rfl), (tw 3 (by decide +kernel) rfl), by decide +kernel, by decide⟩
theorem MI_Lay_init : MI yX3_init cX3_init 2 none 0 := ⟨(tw 110 (by decide +kernel) rfl), (tw 4 (by decide +kernel) rfl), by decide +kernel, by decide⟩
theorem MI_Parts_init : MI yX4_init cX4_init 1 none 0 := ⟨(tw 168 (by decide +kernel) rfl), (tw 6 (by decide +kernel) rfl), by decide +kernel, by decide⟩
theorem MI_Plan_init : MI yX5_init cX5_init 1 none 0 := ⟨(tw 234 (by decide +kernel) rfl), (tw 8 (by decide +kernel) rfl), by decide +kernel, by decide⟩
theorem MI_Search_init : MI yX6_init cX6_init 1 none 0 := ⟨(tw 195 (by decide +kernel) rfl), (tw 7 (by decide +kernel) rfl), by decide +kernel, by decide⟩
theorem clX7_16 : Cond.classLink RX7 16 RX2 ∈ gt := tw 86 (by decide +kernel) rfl
theorem clX7_23 : Cond.classLink RX7 23 RX3 ∈ gt := tw 106 (by decide +kernel) rfl
theorem clX7_30 : Cond.classLink RX7 30 RX4 ∈ gt := tw 164 (by decide +kernel) rfl
theorem clX7_37 : Cond.classLink RX7 37 RX6 ∈ gt := tw 191 (by decide +kernel) rfl
theorem clX7_44 : Cond.classLink RX7 44 RX5 ∈ gt := tw 230 (by decide +kernel) rfl
theorem clX7_51 : Cond.classLink RX7 51 RX0 ∈ gt := tw 260 (by decide +kernel) rfl
theorem clX7_7 : Cond.classLink RX7 7 RX1 ∈ gt := tw 22 (by decide +kernel) rfl
theorem df2 : ∀ j, j < 3 → defaultValue (tyX2 j) = (if ft 2 j < 2 then Value.int 0 else if ft 2 j = 2 then Value.long 0 else Value.null) := by
  intro j hj
  rcases (show j = 0 ∨ j = 1 ∨ j = 2 by omega) with rfl | rfl | rfl <;> rfl
theorem df3 : ∀ j, j < 3 → defaultValue (tyX3 j) = (if ft 3 j < 2 then Value.int 0 else if ft 3 j = 2 then Value.long 0 else Value.null) := by
  intro j hj
  rcases (show j = 0 ∨ j = 1 ∨ j = 2 by omega) with rfl | rfl | rfl <;> rfl
theorem df4 : ∀ j, j < 5 → defaultValue (tyX4 j) = (if ft 4 j < 2 then Value.int 0 else if ft 4 j = 2 then Value.long 0 else Value.null) := by
  intro j hj
  rcases (show j = 0 ∨ j = 1 ∨ j = 2 ∨ j = 3 ∨ j = 4 by omega) with rfl | rfl | rfl | rfl | rfl <;> rfl
theorem df5 : ∀ j, j < 6 → defaultValue (tyX5 j) = (if ft 5 j < 2 then Value.int 0 else if ft 5 j = 2 then Value.long 0 else Value.null) := by
  intro j hj
  rcases (show j = 0 ∨ j = 1 ∨ j = 2 ∨ j = 3 ∨ j = 4 ∨ j = 5 by omega) with rfl | rfl | rfl | rfl | rfl | rfl <;> rfl
theorem df6 : ∀ j, j < 10 → defaultValue (tyX6 j) = (if ft 6 j < 2 then Value.int 0 else if ft 6 j = 2 then Value.long 0 else Value.null) := by
  intro j hj
  rcases (show j = 0 ∨ j = 1 ∨ j = 2 ∨ j = 3 ∨ j = 4 ∨ j = 5 ∨ j = 6 ∨ j = 7 ∨ j = 8 ∨ j = 9 by omega) with rfl | rfl | rfl | rfl | rfl | rfl | rfl | rfl | rfl | rfl <;> rfl
theorem ii_Hist : Cond.initialized RX2 ∈ gt := (tw 3 (by decide +kernel) rfl)
theorem ii_Lay : Cond.initialized RX3 ∈ gt := (tw 4 (by decide +kernel) rfl)
theorem ii_Parts : Cond.initialized RX4 ∈ gt := (tw 6 (by decide +kernel) rfl)
theorem ii_Plan : Cond.initialized RX5 ∈ gt := (tw 8 (by decide +kernel) rfl)
theorem ii_Search : Cond.initialized RX6 ∈ gt := (tw 7 (by decide +kernel) rfl)
theorem in_Hist : Cond.instantiable RX2 3 ∈ gt := tw 87 (by decide +kernel) rfl
theorem in_Lay : Cond.instantiable RX3 3 ∈ gt := tw 107 (by decide +kernel) rfl
theorem in_Parts : Cond.instantiable RX4 5 ∈ gt := tw 165 (by decide +kernel) rfl
theorem in_Plan : Cond.instantiable RX5 6 ∈ gt := tw 231 (by decide +kernel) rfl
theorem in_Search : Cond.instantiable RX6 10 ∈ gt := tw 192 (by decide +kernel) rfl
theorem lkX7_18 : Cond.methodLink RX7 18 yX2_init ∈ gt := (tw 88 (by decide +kernel) rfl)
theorem lkX7_25 : Cond.methodLink RX7 25 yX3_init ∈ gt := (tw 108 (by decide +kernel) rfl)
theorem olX7 : Cond.methodLink RX7 1 objectInit ∈ gt := tw 19 (by decide +kernel) rfl
theorem upS_cg {S : Nat → Bool} {r r2 : Nat → Nat → Option Nat} {a : Nat} (h : r a = r2 a) : upS S r a = upS S r2 a := by
  unfold upS; rw [h]
def rN : Nat → Nat → Option Nat := fun _ _ => none
def NCL : List Nat := [0] ++ [10] ++ [10 + 1, 10 + 2, 10 + 3, 10 + 4, 10 + 5, 10 + 6, 10 + 7, 10 + 8, 10 + 9] ++ [1] ++ [2] ++ List.range' 20 80 ++ [3] ++ [4, 5] ++ List.range' 1000 384 ++ [6] ++ [7, 8] ++ [9] ++ [100, 101, 102, 103, 104] ++ [105] ++ [106, 107, 108, 1386, 1387] ++ [1384] ++ [1385] ++ [109] ++ [110]
def rNC : Nat → Nat → Option Nat := upS (fun a => a == 0) (upS (fun a => a == 105) (upS (fun a => a == 9) (upS (fun a => a == 6) (upS SL (upS SH (upS (fun a => a == 10) rN))))))
set_option maxHeartbeats 4000000 in
set_option maxRecDepth 100000 in
theorem ci_NC : CtI yX7_init cX7_init 1 3 498 6445 0 [0] rN NCL rNC := by
  refine mk_cti (by decide) (by decide) rfl (by decide) ?_
  intro X hX hin hE
  refine dr_aload_n (pc := 0) hX 0 dX7_init_0 rfl rfl ?_
  refine dr_objinit (pc := 1) hX dX7_init_1 olX7 (by decide) (by decide) ?_
  refine dr_aload_n (pc := 4) hX 0 dX7_init_4 rfl rfl ?_
  refine dr_new (pc := 5) hX 10 dX7_init_5 KC1 df1 clX7_7 in_Chart ii_Chart rfl (by decide +kernel) (fun _ => rfl) (by omega) (by omega) ?_
  refine dr_dup (pc := 8) hX dX7_init_8 rfl ?_
  refine dr_callN (pc := 9) hX dX7_init_9 MI_Chart_init rfl IM_Chart_init 0 (by decide) rfl (ci_Chart 10 rfl _ _ (List.mem_append_right _ (List.mem_singleton.mpr rfl)) (fun k q1 q2 h => by simp only [List.mem_append, List.mem_cons, List.not_mem_nil, or_false, List.mem_range'_1] at h; omega) (fun k q1 q2 _ => rfl)) (Nat.le_of_ble_eq_true rfl) (by decide) (by omega) (by omega) ?_
  refine dr_putF (pc := 12) hX hin dX7_init_12 fp7_10 rfl rfl (fun _ => rfl) (fun _ => rfl) ?_
  refine dr_aload_n (pc := 15) hX 0 dX7_init_15 rfl rfl ?_
  refine dr_new (pc := 16) hX 1 dX7_init_16 KC2 df2 clX7_16 in_Hist ii_Hist rfl (by decide +kernel) (fun _ => rfl) (by omega) (by omega) ?_
  refine dr_dup (pc := 19) hX dX7_init_19 rfl ?_
  refine dr_callI (pc := 20) hX dX7_init_20 MI_Hist_init rfl IM_Hist_init lkX7_18 (ci_Hist _ _ (List.mem_append_right _ (List.mem_singleton.mpr rfl)) (fun k q h => by simp only [List.mem_append, List.mem_cons, List.not_mem_nil, or_false, List.mem_range'_1] at h; omega) (fun _ => rfl) (fun k q j => by rw [rs_o (by omega), upS_f (by simp; omega)]; rfl)) (Nat.le_of_ble_eq_true rfl) (by decide) (by omega) (by omega) ?_
  refine dr_putF (pc := 23) hX hin dX7_init_23 fp7_19 rfl rfl (fun _ => rfl) (fun _ => rfl) ?_
  refine dr_aload_n (pc := 26) hX 0 dX7_init_26 rfl rfl ?_
  refine dr_new (pc := 27) hX 3 dX7_init_27 KC3 df3 clX7_23 in_Lay ii_Lay rfl (by decide +kernel) (fun _ => rfl) (by omega) (by omega) ?_
  refine dr_dup (pc := 30) hX dX7_init_30 rfl ?_
  refine dr_callI (pc := 31) hX dX7_init_31 MI_Lay_init rfl IM_Lay_init lkX7_25 (ci_Lay _ _ (List.mem_append_right _ (List.mem_singleton.mpr rfl)) (fun k q h => by simp only [List.mem_append, List.mem_cons, List.not_mem_nil, or_false, List.mem_range'_1] at h; omega) (fun _ => rfl) (fun k q j => by rw [rs_o (by omega), upS_f (by unfold SH; simp; omega), rs_o (by omega), upS_f (by simp; omega)]; rfl)) (Nat.le_of_ble_eq_true rfl) (by decide) (by omega) (by omega) ?_
  refine dr_putF (pc := 34) hX hin dX7_init_34 fp7_26 rfl rfl (fun _ => rfl) (fun _ => rfl) ?_
  refine dr_aload_n (pc := 37) hX 0 dX7_init_37 rfl rfl ?_
  refine dr_new (pc := 38) hX 6 dX7_init_38 KC4 df4 clX7_30 in_Parts ii_Parts rfl (by decide +kernel) (fun _ => rfl) (by omega) (by omega) ?_
  refine dr_dup (pc := 41) hX dX7_init_41 rfl ?_
  refine dr_callN (pc := 42) hX dX7_init_42 MI_Parts_init rfl IM_Parts_init 3 (by decide) rfl (ci_Parts _ _ (List.mem_append_right _ (List.mem_singleton.mpr rfl)) (by decide +kernel) (fun k hk j => by simp only [List.mem_cons, List.not_mem_nil, or_false] at hk; rcases hk with rfl | rfl <;> rfl)) (Nat.le_of_ble_eq_true rfl) (by decide) (by omega) (by omega) ?_
  refine dr_putF (pc := 45) hX hin dX7_init_45 fp7_33 rfl rfl (fun _ => rfl) (fun _ => rfl) ?_
  refine dr_aload_n (pc := 48) hX 0 dX7_init_48 rfl rfl ?_
  refine dr_new (pc := 49) hX 9 dX7_init_49 KC6 df6 clX7_37 in_Search ii_Search rfl (by decide +kernel) (fun _ => rfl) (by omega) (by omega) ?_
  refine dr_dup (pc := 52) hX dX7_init_52 rfl ?_
  refine dr_callN (pc := 53) hX dX7_init_53 MI_Search_init rfl IM_Search_init 4 (by decide) rfl (ci_Search _ _ (List.mem_append_right _ (List.mem_singleton.mpr rfl)) (by decide +kernel) (fun k hk j => by simp only [List.mem_cons, List.not_mem_nil, or_false] at hk; rcases hk with rfl | rfl | rfl | rfl | rfl <;> rfl)) (Nat.le_of_ble_eq_true rfl) (by decide) (by omega) (by omega) ?_
  refine dr_putF (pc := 56) hX hin dX7_init_56 fp7_40 rfl rfl (fun _ => rfl) (fun _ => rfl) ?_
  refine dr_aload_n (pc := 59) hX 0 dX7_init_59 rfl rfl ?_
  refine dr_new (pc := 60) hX 105 dX7_init_60 KC5 df5 clX7_44 in_Plan ii_Plan rfl (by decide +kernel) (fun _ => rfl) (by omega) (by omega) ?_
  refine dr_dup (pc := 63) hX dX7_init_63 rfl ?_
  refine dr_callN (pc := 64) hX dX7_init_64 MI_Plan_init rfl IM_Plan_init 5 (by decide) rfl (ci_Plan _ _ (List.mem_append_right _ (List.mem_singleton.mpr rfl)) (by decide +kernel) (fun k hk j => by simp only [List.mem_cons, List.not_mem_nil, or_false] at hk; rcases hk with rfl | rfl | rfl | rfl | rfl <;> rfl)) (Nat.le_of_ble_eq_true rfl) (by decide) (by omega) (by omega) ?_
  refine dr_putF (pc := 67) hX hin dX7_init_67 fp7_47 rfl rfl (fun _ => rfl) (fun _ => rfl) ?_
  refine dr_aload_n (pc := 70) hX 0 dX7_init_70 rfl rfl ?_
  refine dr_new (pc := 71) hX 1384 dX7_init_71 KC0 df0 clX7_51 in_Box ii_Box rfl (by decide +kernel) (fun _ => rfl) (by omega) (by omega) ?_
  refine dr_dup (pc := 74) hX dX7_init_74 rfl ?_
  refine dr_callN (pc := 75) hX dX7_init_75 MI_Box_init rfl IM_Box_init 7 (by decide) rfl (ci_Box 1384 _ _ (List.mem_append_right _ (List.mem_singleton.mpr rfl))) (Nat.le_of_ble_eq_true rfl) (by decide) (by omega) (by omega) ?_
  refine dr_putF (pc := 78) hX hin dX7_init_78 fp7_54 rfl rfl (fun _ => rfl) (fun _ => rfl) ?_
  refine dr_aload_n (pc := 81) hX 0 dX7_init_81 rfl rfl ?_
  refine dr_new (pc := 82) hX 1385 dX7_init_82 KC0 df0 clX7_51 in_Box ii_Box rfl (by decide +kernel) (fun _ => rfl) (by omega) (by omega) ?_
  refine dr_dup (pc := 85) hX dX7_init_85 rfl ?_
  refine dr_callN (pc := 86) hX dX7_init_86 MI_Box_init rfl IM_Box_init 7 (by decide) rfl (ci_Box 1385 _ _ (List.mem_append_right _ (List.mem_singleton.mpr rfl))) (Nat.le_of_ble_eq_true rfl) (by decide) (by omega) (by omega) ?_
  refine dr_putF (pc := 89) hX hin dX7_init_89 fp7_58 rfl rfl (fun _ => rfl) (fun _ => rfl) ?_
  refine dr_aload_n (pc := 92) hX 0 dX7_init_92 rfl rfl ?_
  refine dr_bipush (pc := 93) hX dX7_init_93 bp_24 ?_
  refine dr_newaI (pc := 95) hX 109 24 dX7_init_95 rfl rfl (by decide) (by decide) (by decide) (by decide +kernel) (fun _ => rfl) (by omega) (by omega) ?_
  refine dr_putF (pc := 97) hX hin dX7_init_97 fp7_61 rfl rfl (fun _ => rfl) (fun _ => rfl) ?_
  refine dr_aload_n (pc := 100) hX 0 dX7_init_100 rfl rfl ?_
  refine dr_bipush (pc := 101) hX dX7_init_101 bp_24 ?_
  refine dr_newaI (pc := 103) hX 110 24 dX7_init_103 rfl rfl (by decide) (by decide) (by decide) (by decide +kernel) (fun _ => rfl) (by omega) (by omega) ?_
  refine dr_putF (pc := 105) hX hin dX7_init_105 fp7_65 rfl rfl (fun _ => rfl) (fun _ => rfl) ?_
  refine dr_up 0 (by decide) (fun j hj ht => ?_) (fun a ha => by repeat (first | rw [rs_o ha] | refine upS_cg ?_)) (dr_ret (pc := 108) hX hE dX7_init_108)
  have hj : j < 10 := hj
  rcases (show j = 0 ∨ j = 1 ∨ j = 2 ∨ j = 3 ∨ j = 4 ∨ j = 5 ∨ j = 6 ∨ j = 7 ∨ j = 8 ∨ j = 9 by omega) with rfl | rfl | rfl | rfl | rfl | rfl | rfl | rfl | rfl | rfl <;> rfl
