theorem MI_Box_covers : MI yX0_covers cX0_covers 3 (some .boolean) 2 := ⟨gt_in (by decide +kernel) rfl, gt_in (by decide +kernel) rfl, by decide +kernel, by decide⟩
theorem MI_Box_coversAny : MI yX0_coversAny cX0_coversAny 6 (some .boolean) 4 := ⟨gt_in (by decide +kernel) rfl, gt_in (by decide +kernel) rfl, by decide +kernel, by decide⟩
theorem MI_Box_lineEnters : MI yX0_lineEnters cX0_lineEnters 12 (some .boolean) 1 := ⟨gt_in (by decide +kernel) rfl, gt_in (by decide +kernel) rfl, by decide +kernel, by decide⟩
theorem MI_Box_linesMeet : MI yX0_linesMeet cX0_linesMeet 8 (some .boolean) 1 := ⟨gt_in (by decide +kernel) rfl, gt_in (by decide +kernel) rfl, by decide +kernel, by decide⟩
theorem MI_Box_overlaps : MI yX0_overlaps cX0_overlaps 5 (some .boolean) 4 := ⟨gt_in (by decide +kernel) rfl, gt_in (by decide +kernel) rfl, by decide +kernel, by decide⟩
theorem MI_Box_sideOf : MI yX0_sideOf cX0_sideOf 3 (some .int) 2 := ⟨gt_in (by decide +kernel) rfl, gt_in (by decide +kernel) rfl, by decide +kernel, by decide⟩
theorem MI_Box_start : MI yX0_start cX0_start 4 (some .int) 4 := ⟨gt_in (by decide +kernel) rfl, gt_in (by decide +kernel) rfl, by decide +kernel, by decide⟩
theorem MS_Box_start : Cond.static yX0_start ∈ gt := gt_in (by decide +kernel) rfl
theorem MV_Box_covers : MV yX0_covers 0 := ⟨gt_in (by decide +kernel) rfl, gt_in (by decide +kernel) rfl, _, _, rfl⟩
theorem MV_Box_coversAny : MV yX0_coversAny 0 := ⟨gt_in (by decide +kernel) rfl, gt_in (by decide +kernel) rfl, _, _, rfl⟩
theorem MV_Box_lineEnters : MV yX0_lineEnters 0 := ⟨gt_in (by decide +kernel) rfl, gt_in (by decide +kernel) rfl, _, _, rfl⟩
theorem MV_Box_linesMeet : MV yX0_linesMeet 0 := ⟨gt_in (by decide +kernel) rfl, gt_in (by decide +kernel) rfl, _, _, rfl⟩
theorem MV_Box_overlaps : MV yX0_overlaps 0 := ⟨gt_in (by decide +kernel) rfl, gt_in (by decide +kernel) rfl, _, _, rfl⟩
theorem MV_Box_sideOf : MV yX0_sideOf 0 := ⟨gt_in (by decide +kernel) rfl, gt_in (by decide +kernel) rfl, _, _, rfl⟩
theorem bp_40 : (Int8.ofInt (40)).toInt32 = (40 : Int32) := by decide
theorem bp_8 : (Int8.ofInt (8)).toInt32 = (8 : Int32) := by decide
theorem fp0_15 : FP RX0 15 0 4 1 .boolean false := ⟨_, _, _, _, KC0, by decide, rfl, rfl, rfl, gt_in (by decide +kernel) rfl⟩
theorem fp0_21 : FP RX0 21 1 5 3 (.array .int) true := ⟨_, _, _, _, KC1, by decide, rfl, rfl, rfl, gt_in (by decide +kernel) rfl⟩
theorem fp0_24 : FP RX0 24 1 6 3 (.array .int) true := ⟨_, _, _, _, KC1, by decide, rfl, rfl, rfl, gt_in (by decide +kernel) rfl⟩
theorem fp0_27 : FP RX0 27 1 3 3 (.array .int) true := ⟨_, _, _, _, KC1, by decide, rfl, rfl, rfl, gt_in (by decide +kernel) rfl⟩
theorem fp0_30 : FP RX0 30 1 4 3 (.array .int) true := ⟨_, _, _, _, KC1, by decide, rfl, rfl, rfl, gt_in (by decide +kernel) rfl⟩
theorem fp0_40 : FP RX0 40 0 0 0 .int false := ⟨_, _, _, _, KC0, by decide, rfl, rfl, rfl, gt_in (by decide +kernel) rfl⟩
theorem fp0_47 : FP RX0 47 0 1 0 .int false := ⟨_, _, _, _, KC0, by decide, rfl, rfl, rfl, gt_in (by decide +kernel) rfl⟩
theorem fp0_50 : FP RX0 50 0 2 0 .int false := ⟨_, _, _, _, KC0, by decide, rfl, rfl, rfl, gt_in (by decide +kernel) rfl⟩
theorem fp0_53 : FP RX0 53 0 3 0 .int false := ⟨_, _, _, _, KC0, by decide, rfl, rfl, rfl, gt_in (by decide +kernel) rfl⟩
theorem fp0_56 : FP RX0 56 0 5 0 .int false := ⟨_, _, _, _, KC0, by decide, rfl, rfl, rfl, gt_in (by decide +kernel) rfl⟩
theorem fp0_59 : FP RX0 59 0 6 0 .int false := ⟨_, _, _, _, KC0, by decide, rfl, rfl, rfl, gt_in (by decide +kernel) rfl⟩
theorem fp0_62 : FP RX0 62 0 7 0 .int false := ⟨_, _, _, _, KC0, by decide, rfl, rfl, rfl, gt_in (by decide +kernel) rfl⟩
theorem fp0_65 : FP RX0 65 0 8 0 .int false := ⟨_, _, _, _, KC0, by decide, rfl, rfl, rfl, gt_in (by decide +kernel) rfl⟩
theorem fp0_68 : FP RX0 68 1 9 3 (.array .int) true := ⟨_, _, _, _, KC1, by decide, rfl, rfl, rfl, gt_in (by decide +kernel) rfl⟩
theorem fp0_71 : FP RX0 71 1 10 3 (.array .int) true := ⟨_, _, _, _, KC1, by decide, rfl, rfl, rfl, gt_in (by decide +kernel) rfl⟩
theorem fp0_74 : FP RX0 74 1 1 0 .int false := ⟨_, _, _, _, KC1, by decide, rfl, rfl, rfl, gt_in (by decide +kernel) rfl⟩
theorem fp0_81 : FP RX0 81 1 0 0 .int false := ⟨_, _, _, _, KC1, by decide, rfl, rfl, rfl, gt_in (by decide +kernel) rfl⟩
theorem fp0_9 : FP RX0 9 1 2 3 (.array .int) true := ⟨_, _, _, _, KC1, by decide, rfl, rfl, rfl, gt_in (by decide +kernel) rfl⟩
theorem g10_10 : rf 10 10 = some 19 := by decide
theorem g10_2 : rf 10 2 = some 11 := by decide
theorem g10_3 : rf 10 3 = some 12 := by decide
theorem g10_4 : rf 10 4 = some 13 := by decide
theorem g10_5 : rf 10 5 = some 14 := by decide
theorem g10_6 : rf 10 6 = some 15 := by decide
theorem g10_9 : rf 10 9 = some 18 := by decide
theorem ic_0 : Int32.ofInt (0) = (0 : Int32) := by decide
theorem ic_1 : Int32.ofInt (1) = (1 : Int32) := by decide
theorem ic_2 : Int32.ofInt (2) = (2 : Int32) := by decide
theorem k10 : kd 10 = 1 := by decide
theorem k11 : kd 11 = 20 := by decide
theorem k12 : kd 12 = 20 := by decide
theorem k13 : kd 13 = 20 := by decide
theorem k14 : kd 14 = 20 := by decide
theorem k15 : kd 15 = 20 := by decide
theorem k18 : kd 18 = 20 := by decide
theorem k19 : kd 19 = 20 := by decide
theorem lkM0_105 : Cond.methodLink RX0 105 Lib.Math.min.name ∈ gt := gt_in (by decide +kernel) rfl
theorem lkM0_99 : Cond.methodLink RX0 99 Lib.Math.max.name ∈ gt := gt_in (by decide +kernel) rfl
theorem lkX0_108 : Cond.methodLink RX0 108 yX0_sideOf ∈ gt := gt_in (by decide +kernel) rfl
theorem lkX0_36 : Cond.methodLink RX0 36 yX0_start ∈ gt := gt_in (by decide +kernel) rfl
theorem lkX0_77 : Cond.methodLink RX0 77 yX0_coversAny ∈ gt := gt_in (by decide +kernel) rfl
theorem lkX0_84 : Cond.methodLink RX0 84 yX0_covers ∈ gt := gt_in (by decide +kernel) rfl
theorem lkX0_88 : Cond.methodLink RX0 88 yX0_overlaps ∈ gt := gt_in (by decide +kernel) rfl
theorem lkX0_92 : Cond.methodLink RX0 92 yX0_lineEnters ∈ gt := gt_in (by decide +kernel) rfl
theorem lkX0_96 : Cond.methodLink RX0 96 yX0_linesMeet ∈ gt := gt_in (by decide +kernel) rfl
theorem sp_1000 : (Int16.ofInt (1000)).toInt32 = (1000 : Int32) := by decide
