def f_Chart_copyFrom (o : Nat) (a0 : Nat) (m : Me) : Option Me := bd (si m o 0 (m.1 a0 0)) (fun m1 => bd (si m1 o 1 (m1.1 a0 1)) (fun m2 => ac m2 (a0 + 1) (0 : Int32) (o + 1) (0 : Int32) (m2.1 o 0) (fun m3 => ac m3 (a0 + 2) (0 : Int32) (o + 2) (0 : Int32) (m3.1 o 0) (fun m4 => ac m4 (a0 + 3) (0 : Int32) (o + 3) (0 : Int32) (m4.1 o 0) (fun m5 => ac m5 (a0 + 4) (0 : Int32) (o + 4) (0 : Int32) (m5.1 o 0) (fun m6 => ac m6 (a0 + 5) (0 : Int32) (o + 5) (0 : Int32) (m6.1 o 0) (fun m7 => ac m7 (a0 + 6) (0 : Int32) (o + 6) (0 : Int32) (m7.1 o 0) (fun m8 => ac m8 (a0 + 7) (0 : Int32) (o + 7) (0 : Int32) (m8.1 o 0) (fun m9 => ac m9 (a0 + 8) (0 : Int32) (o + 8) (0 : Int32) (m9.1 o 1) (fun m10 => ac m10 (a0 + 9) (0 : Int32) (o + 9) (0 : Int32) (m10.1 o 1) (fun m11 => some m11)))))))))))
set_option maxHeartbeats 4000000 in
set_option maxRecDepth 100000 in
theorem c_Chart_copyFrom (o : Nat) (a0 : Nat) (ho : kd o = 1) (ha0 : kd a0 = 1) (m : Me) (r : Me) (h : f_Chart_copyFrom o a0 m = some r) : Ct yX1_copyFrom cX1_copyFrom 2 none 1 (fun ad => [.ref (ad o), .ref (ad a0)]) m (fun ad => (none, r)) := by
  refine mk_ct (F := f_Chart_copyFrom o a0 m) (fun _ => oV) r h (fun _ => rfl) (by decide) (fun _ => Nat.le_of_ble_eq_true rfl) ?_
  intro X hX hE
  show J X oV (f_Chart_copyFrom o a0 m) m 0 [(0, rX X o), (1, rX X a0)] []
  unfold f_Chart_copyFrom
  refine r_aload_n (pc := 0) hX 0 dX1_copyFrom_0 rfl rfl ?_
  refine r_aload_n (pc := 1) hX 1 dX1_copyFrom_1 rfl rfl ?_
  refine r_getI (pc := 2) hX dX1_copyFrom_2 fp1_39 ha0 (by decide) ?_
  refine r_putI (pc := 5) hX dX1_copyFrom_5 fp1_39 ho (fun m1 => ?_)
  refine r_aload_n (pc := 8) hX 0 dX1_copyFrom_8 rfl rfl ?_
  refine r_aload_n (pc := 9) hX 1 dX1_copyFrom_9 rfl rfl ?_
  refine r_getI (pc := 10) hX dX1_copyFrom_10 fp1_43 ha0 (by decide) ?_
  refine r_putI (pc := 13) hX dX1_copyFrom_13 fp1_43 ho (fun m2 => ?_)
  refine r_aload_n (pc := 16) hX 1 dX1_copyFrom_16 rfl rfl ?_
  refine r_getR (pc := 17) hX dX1_copyFrom_17 fp1_9 ha0 rfl (rfC2 ha0) ?_
  refine r_iconst (pc := 20) hX dX1_copyFrom_20 ic_0 ?_
  refine r_aload_n (pc := 21) hX 0 dX1_copyFrom_21 rfl rfl ?_
  refine r_getR (pc := 22) hX dX1_copyFrom_22 fp1_9 ho rfl (rfC2 ho) ?_
  refine r_iconst (pc := 25) hX dX1_copyFrom_25 ic_0 ?_
  refine r_aload_n (pc := 26) hX 0 dX1_copyFrom_26 rfl rfl ?_
  refine r_getI (pc := 27) hX dX1_copyFrom_27 fp1_39 ho (by decide) ?_
  refine r_acp (st := []) (pc := 30) hX dX1_copyFrom_30 lkAC1_46 (kdC1 ha0) (kdC1 ho) (Nat.le_of_ble_eq_true rfl) (by decide) (fun m3 => ?_)
  refine r_aload_n (pc := 33) hX 1 dX1_copyFrom_33 rfl rfl ?_
  refine r_getR (pc := 34) hX dX1_copyFrom_34 fp1_15 ha0 rfl (rfC3 ha0) ?_
  refine r_iconst (pc := 37) hX dX1_copyFrom_37 ic_0 ?_
  refine r_aload_n (pc := 38) hX 0 dX1_copyFrom_38 rfl rfl ?_
  refine r_getR (pc := 39) hX dX1_copyFrom_39 fp1_15 ho rfl (rfC3 ho) ?_
  refine r_iconst (pc := 42) hX dX1_copyFrom_42 ic_0 ?_
  refine r_aload_n (pc := 43) hX 0 dX1_copyFrom_43 rfl rfl ?_
  refine r_getI (pc := 44) hX dX1_copyFrom_44 fp1_39 ho (by decide) ?_
  refine r_acp (st := []) (pc := 47) hX dX1_copyFrom_47 lkAC1_46 (kdC2 ha0) (kdC2 ho) (Nat.le_of_ble_eq_true rfl) (by decide) (fun m4 => ?_)
  refine r_aload_n (pc := 50) hX 1 dX1_copyFrom_50 rfl rfl ?_
  refine r_getR (pc := 51) hX dX1_copyFrom_51 fp1_18 ha0 rfl (rfC4 ha0) ?_
  refine r_iconst (pc := 54) hX dX1_copyFrom_54 ic_0 ?_
  refine r_aload_n (pc := 55) hX 0 dX1_copyFrom_55 rfl rfl ?_
  refine r_getR (pc := 56) hX dX1_copyFrom_56 fp1_18 ho rfl (rfC4 ho) ?_
  refine r_iconst (pc := 59) hX dX1_copyFrom_59 ic_0 ?_
  refine r_aload_n (pc := 60) hX 0 dX1_copyFrom_60 rfl rfl ?_
  refine r_getI (pc := 61) hX dX1_copyFrom_61 fp1_39 ho (by decide) ?_
  refine r_acp (st := []) (pc := 64) hX dX1_copyFrom_64 lkAC1_46 (kdC3 ha0) (kdC3 ho) (Nat.le_of_ble_eq_true rfl) (by decide) (fun m5 => ?_)
  refine r_aload_n (pc := 67) hX 1 dX1_copyFrom_67 rfl rfl ?_
  refine r_getR (pc := 68) hX dX1_copyFrom_68 fp1_21 ha0 rfl (rfC5 ha0) ?_
  refine r_iconst (pc := 71) hX dX1_copyFrom_71 ic_0 ?_
  refine r_aload_n (pc := 72) hX 0 dX1_copyFrom_72 rfl rfl ?_
  refine r_getR (pc := 73) hX dX1_copyFrom_73 fp1_21 ho rfl (rfC5 ho) ?_
  refine r_iconst (pc := 76) hX dX1_copyFrom_76 ic_0 ?_
  refine r_aload_n (pc := 77) hX 0 dX1_copyFrom_77 rfl rfl ?_
  refine r_getI (pc := 78) hX dX1_copyFrom_78 fp1_39 ho (by decide) ?_
  refine r_acp (st := []) (pc := 81) hX dX1_copyFrom_81 lkAC1_46 (kdC4 ha0) (kdC4 ho) (Nat.le_of_ble_eq_true rfl) (by decide) (fun m6 => ?_)
  refine r_aload_n (pc := 84) hX 1 dX1_copyFrom_84 rfl rfl ?_
  refine r_getR (pc := 85) hX dX1_copyFrom_85 fp1_24 ha0 rfl (rfC6 ha0) ?_
  refine r_iconst (pc := 88) hX dX1_copyFrom_88 ic_0 ?_
  refine r_aload_n (pc := 89) hX 0 dX1_copyFrom_89 rfl rfl ?_
  refine r_getR (pc := 90) hX dX1_copyFrom_90 fp1_24 ho rfl (rfC6 ho) ?_
  refine r_iconst (pc := 93) hX dX1_copyFrom_93 ic_0 ?_
  refine r_aload_n (pc := 94) hX 0 dX1_copyFrom_94 rfl rfl ?_
  refine r_getI (pc := 95) hX dX1_copyFrom_95 fp1_39 ho (by decide) ?_
  refine r_acp (st := []) (pc := 98) hX dX1_copyFrom_98 lkAC1_46 (kdC5 ha0) (kdC5 ho) (Nat.le_of_ble_eq_true rfl) (by decide) (fun m7 => ?_)
  refine r_aload_n (pc := 101) hX 1 dX1_copyFrom_101 rfl rfl ?_
  refine r_getR (pc := 102) hX dX1_copyFrom_102 fp1_27 ha0 rfl (rfC7 ha0) ?_
  refine r_iconst (pc := 105) hX dX1_copyFrom_105 ic_0 ?_
  refine r_aload_n (pc := 106) hX 0 dX1_copyFrom_106 rfl rfl ?_
  refine r_getR (pc := 107) hX dX1_copyFrom_107 fp1_27 ho rfl (rfC7 ho) ?_
  refine r_iconst (pc := 110) hX dX1_copyFrom_110 ic_0 ?_
  refine r_aload_n (pc := 111) hX 0 dX1_copyFrom_111 rfl rfl ?_
  refine r_getI (pc := 112) hX dX1_copyFrom_112 fp1_39 ho (by decide) ?_
  refine r_acp (st := []) (pc := 115) hX dX1_copyFrom_115 lkAC1_46 (kdC6 ha0) (kdC6 ho) (Nat.le_of_ble_eq_true rfl) (by decide) (fun m8 => ?_)
  refine r_aload_n (pc := 118) hX 1 dX1_copyFrom_118 rfl rfl ?_
  refine r_getR (pc := 119) hX dX1_copyFrom_119 fp1_30 ha0 rfl (rfC8 ha0) ?_
  refine r_iconst (pc := 122) hX dX1_copyFrom_122 ic_0 ?_
  refine r_aload_n (pc := 123) hX 0 dX1_copyFrom_123 rfl rfl ?_
  refine r_getR (pc := 124) hX dX1_copyFrom_124 fp1_30 ho rfl (rfC8 ho) ?_
  refine r_iconst (pc := 127) hX dX1_copyFrom_127 ic_0 ?_
  refine r_aload_n (pc := 128) hX 0 dX1_copyFrom_128 rfl rfl ?_
  refine r_getI (pc := 129) hX dX1_copyFrom_129 fp1_39 ho (by decide) ?_
  refine r_acp (st := []) (pc := 132) hX dX1_copyFrom_132 lkAC1_46 (kdC7 ha0) (kdC7 ho) (Nat.le_of_ble_eq_true rfl) (by decide) (fun m9 => ?_)
  refine r_aload_n (pc := 135) hX 1 dX1_copyFrom_135 rfl rfl ?_
  refine r_getR (pc := 136) hX dX1_copyFrom_136 fp1_33 ha0 rfl (rfC9 ha0) ?_
  refine r_iconst (pc := 139) hX dX1_copyFrom_139 ic_0 ?_
  refine r_aload_n (pc := 140) hX 0 dX1_copyFrom_140 rfl rfl ?_
  refine r_getR (pc := 141) hX dX1_copyFrom_141 fp1_33 ho rfl (rfC9 ho) ?_
  refine r_iconst (pc := 144) hX dX1_copyFrom_144 ic_0 ?_
  refine r_aload_n (pc := 145) hX 0 dX1_copyFrom_145 rfl rfl ?_
  refine r_getI (pc := 146) hX dX1_copyFrom_146 fp1_43 ho (by decide) ?_
  refine r_acp (st := []) (pc := 149) hX dX1_copyFrom_149 lkAC1_46 (kdC8 ha0) (kdC8 ho) (Nat.le_of_ble_eq_true rfl) (by decide) (fun m10 => ?_)
  refine r_aload_n (pc := 152) hX 1 dX1_copyFrom_152 rfl rfl ?_
  refine r_getR (pc := 153) hX dX1_copyFrom_153 fp1_36 ha0 rfl (rfC10 ha0) ?_
  refine r_iconst (pc := 156) hX dX1_copyFrom_156 ic_0 ?_
  refine r_aload_n (pc := 157) hX 0 dX1_copyFrom_157 rfl rfl ?_
  refine r_getR (pc := 158) hX dX1_copyFrom_158 fp1_36 ho rfl (rfC10 ho) ?_
  refine r_iconst (pc := 161) hX dX1_copyFrom_161 ic_0 ?_
  refine r_aload_n (pc := 162) hX 0 dX1_copyFrom_162 rfl rfl ?_
  refine r_getI (pc := 163) hX dX1_copyFrom_163 fp1_43 ho (by decide) ?_
  refine r_acp (st := []) (pc := 166) hX dX1_copyFrom_166 lkAC1_46 (kdC9 ha0) (kdC9 ho) (Nat.le_of_ble_eq_true rfl) (by decide) (fun m11 => ?_)
  exact r_vret (pc := 169) hX hE dX1_copyFrom_169
def f_Chart_addName (a0 : Int32) (a1 : Int32) (a2 : Int32) (m : Me) : Option (Int32 × Me) := wi m 11 (ln 11) (m.1 10 0) a0 (fun m1 => wi m1 12 (ln 12) (m1.1 10 0) a1 (fun m2 => wi m2 13 (ln 13) (m2.1 10 0) a2 (fun m3 => wi m3 14 (ln 14) (m3.1 10 0) (20 : Int32) (fun m4 => wi m4 15 (ln 15) (m4.1 10 0) (8 : Int32) (fun m5 => wi m5 16 (ln 16) (m5.1 10 0) (100 : Int32) (fun m6 => wi m6 17 (ln 17) (m6.1 10 0) (-1 : Int32) (fun m7 => bd (si m7 10 0 (((m7.1 10 0)) + (1 : Int32))) (fun m8 => some ((m7.1 10 0), m8)))))))))
set_option maxHeartbeats 4000000 in
set_option maxRecDepth 100000 in
theorem c_Chart_addName (a0 : Int32) (a1 : Int32) (a2 : Int32)  (m : Me) (r : Int32) (m' : Me) (h : f_Chart_addName a0 a1 a2 m = some (r, m')) : Ct yX1_addName cX1_addName 4 (some .int) 0 (fun ad => [.ref (ad 10), .int a0, .int a1, .int a2]) m (fun ad => (some (.int r), m')) := by
  refine mk_ct (F := f_Chart_addName a0 a1 a2 m) (fun _ => oI) (r, m') h (fun _ => rfl) (by decide) (fun _ => Nat.le_of_ble_eq_true rfl) ?_
  intro X hX hE
  show J X oI (f_Chart_addName a0 a1 a2 m) m 0 [(0, rX X 10), (1, .int a0), (2, .int a1), (3, .int a2)] []
  unfold f_Chart_addName
  refine r_aload_n (pc := 0) hX 0 dX1_addName_0 rfl rfl ?_
  refine r_getR (pc := 1) hX dX1_addName_1 fp1_9 k10 rfl g10_2 ?_
  refine r_aload_n (pc := 4) hX 0 dX1_addName_4 rfl rfl ?_
  refine r_getI (pc := 5) hX dX1_addName_5 fp1_39 k10 (by decide) ?_
  refine r_iload_n (pc := 8) hX 1 dX1_addName_8 rfl rfl ?_
  refine r_iast (pc := 9) hX dX1_addName_9 k11 (fun m1 => ?_)
  refine r_aload_n (pc := 10) hX 0 dX1_addName_10 rfl rfl ?_
  refine r_getR (pc := 11) hX dX1_addName_11 fp1_15 k10 rfl g10_3 ?_
  refine r_aload_n (pc := 14) hX 0 dX1_addName_14 rfl rfl ?_
  refine r_getI (pc := 15) hX dX1_addName_15 fp1_39 k10 (by decide) ?_
  refine r_iload_n (pc := 18) hX 2 dX1_addName_18 rfl rfl ?_
  refine r_iast (pc := 19) hX dX1_addName_19 k12 (fun m2 => ?_)
  refine r_aload_n (pc := 20) hX 0 dX1_addName_20 rfl rfl ?_
  refine r_getR (pc := 21) hX dX1_addName_21 fp1_18 k10 rfl g10_4 ?_
  refine r_aload_n (pc := 24) hX 0 dX1_addName_24 rfl rfl ?_
  refine r_getI (pc := 25) hX dX1_addName_25 fp1_39 k10 (by decide) ?_
  refine r_iload_n (pc := 28) hX 3 dX1_addName_28 rfl rfl ?_
  refine r_iast (pc := 29) hX dX1_addName_29 k13 (fun m3 => ?_)
  refine r_aload_n (pc := 30) hX 0 dX1_addName_30 rfl rfl ?_
  refine r_getR (pc := 31) hX dX1_addName_31 fp1_21 k10 rfl g10_5 ?_
  refine r_aload_n (pc := 34) hX 0 dX1_addName_34 rfl rfl ?_
  refine r_getI (pc := 35) hX dX1_addName_35 fp1_39 k10 (by decide) ?_
  refine r_bipush (pc := 38) hX dX1_addName_38 bp_20 ?_
  refine r_iast (pc := 40) hX dX1_addName_40 k14 (fun m4 => ?_)
  refine r_aload_n (pc := 41) hX 0 dX1_addName_41 rfl rfl ?_
  refine r_getR (pc := 42) hX dX1_addName_42 fp1_24 k10 rfl g10_6 ?_
  refine r_aload_n (pc := 45) hX 0 dX1_addName_45 rfl rfl ?_
  refine r_getI (pc := 46) hX dX1_addName_46 fp1_39 k10 (by decide) ?_
  refine r_bipush (pc := 49) hX dX1_addName_49 bp_8 ?_
  refine r_iast (pc := 51) hX dX1_addName_51 k15 (fun m5 => ?_)
  refine r_aload_n (pc := 52) hX 0 dX1_addName_52 rfl rfl ?_
  refine r_getR (pc := 53) hX dX1_addName_53 fp1_27 k10 rfl g10_7 ?_
  refine r_aload_n (pc := 56) hX 0 dX1_addName_56 rfl rfl ?_
  refine r_getI (pc := 57) hX dX1_addName_57 fp1_39 k10 (by decide) ?_
  refine r_bipush (pc := 60) hX dX1_addName_60 bp_100 ?_
  refine r_iast (pc := 62) hX dX1_addName_62 k16 (fun m6 => ?_)
  refine r_aload_n (pc := 63) hX 0 dX1_addName_63 rfl rfl ?_
  refine r_getR (pc := 64) hX dX1_addName_64 fp1_30 k10 rfl g10_8 ?_
  refine r_aload_n (pc := 67) hX 0 dX1_addName_67 rfl rfl ?_
  refine r_getI (pc := 68) hX dX1_addName_68 fp1_39 k10 (by decide) ?_
  refine r_iconst (pc := 71) hX dX1_addName_71 ic_m1 ?_
  refine r_iast (pc := 72) hX dX1_addName_72 k17 (fun m7 => ?_)
  refine r_aload_n (pc := 73) hX 0 dX1_addName_73 rfl rfl ?_
  refine r_dup (pc := 74) hX dX1_addName_74 rfl ?_
  refine r_getI (pc := 75) hX dX1_addName_75 fp1_39 k10 (by decide) ?_
  refine r_dup_x1 (pc := 78) hX dX1_addName_78 rfl rfl ?_
  refine r_iconst (pc := 79) hX dX1_addName_79 ic_1 ?_
  refine r_iadd (pc := 80) hX dX1_addName_80 ?_
  refine r_putI (pc := 81) hX dX1_addName_81 fp1_39 k10 (fun m8 => ?_)
  exact r_iretI (pc := 84) hX hE dX1_addName_84
def f_Chart_addDot (a0 : Int32) (a1 : Int32) (m : Me) : Option (Int32 × Me) := wi m 18 (ln 18) (m.1 10 1) a0 (fun m1 => wi m1 19 (ln 19) (m1.1 10 1) a1 (fun m2 => bd (si m2 10 1 (((m2.1 10 1)) + (1 : Int32))) (fun m3 => some ((m2.1 10 1), m3))))
set_option maxHeartbeats 4000000 in
set_option maxRecDepth 100000 in
theorem c_Chart_addDot (a0 : Int32) (a1 : Int32)  (m : Me) (r : Int32) (m' : Me) (h : f_Chart_addDot a0 a1 m = some (r, m')) : Ct yX1_addDot cX1_addDot 3 (some .int) 0 (fun ad => [.ref (ad 10), .int a0, .int a1]) m (fun ad => (some (.int r), m')) := by
  refine mk_ct (F := f_Chart_addDot a0 a1 m) (fun _ => oI) (r, m') h (fun _ => rfl) (by decide) (fun _ => Nat.le_of_ble_eq_true rfl) ?_
  intro X hX hE
  show J X oI (f_Chart_addDot a0 a1 m) m 0 [(0, rX X 10), (1, .int a0), (2, .int a1)] []
  unfold f_Chart_addDot
  refine r_aload_n (pc := 0) hX 0 dX1_addDot_0 rfl rfl ?_
  refine r_getR (pc := 1) hX dX1_addDot_1 fp1_33 k10 rfl g10_9 ?_
  refine r_aload_n (pc := 4) hX 0 dX1_addDot_4 rfl rfl ?_
  refine r_getI (pc := 5) hX dX1_addDot_5 fp1_43 k10 (by decide) ?_
  refine r_iload_n (pc := 8) hX 1 dX1_addDot_8 rfl rfl ?_
  refine r_iast (pc := 9) hX dX1_addDot_9 k18 (fun m1 => ?_)
  refine r_aload_n (pc := 10) hX 0 dX1_addDot_10 rfl rfl ?_
  refine r_getR (pc := 11) hX dX1_addDot_11 fp1_36 k10 rfl g10_10 ?_
  refine r_aload_n (pc := 14) hX 0 dX1_addDot_14 rfl rfl ?_
  refine r_getI (pc := 15) hX dX1_addDot_15 fp1_43 k10 (by decide) ?_
  refine r_iload_n (pc := 18) hX 2 dX1_addDot_18 rfl rfl ?_
  refine r_iast (pc := 19) hX dX1_addDot_19 k19 (fun m2 => ?_)
  refine r_aload_n (pc := 20) hX 0 dX1_addDot_20 rfl rfl ?_
  refine r_dup (pc := 21) hX dX1_addDot_21 rfl ?_
  refine r_getI (pc := 22) hX dX1_addDot_22 fp1_43 k10 (by decide) ?_
  refine r_dup_x1 (pc := 25) hX dX1_addDot_25 rfl rfl ?_
  refine r_iconst (pc := 26) hX dX1_addDot_26 ic_1 ?_
  refine r_iadd (pc := 27) hX dX1_addDot_27 ?_
  refine r_putI (pc := 28) hX dX1_addDot_28 fp1_43 k10 (fun m3 => ?_)
  exact r_iretI (pc := 31) hX hE dX1_addDot_31
def f_Chart_has (a0 : Int32) (m : Me) : Option Int32 := if a0 < 0 then some (0 : Int32) else if (m.1 10 0) ≤ a0 then some (0 : Int32) else some (1 : Int32)
set_option maxHeartbeats 4000000 in
set_option maxRecDepth 100000 in
theorem c_Chart_has (a0 : Int32)  (m : Me) (r : Int32) (h : f_Chart_has a0 m = some r) : Ct yX1_has cX1_has 2 (some .boolean) 0 (fun ad => [.ref (ad 10), .int a0]) m (fun ad => (some (.int r), m)) := by
  refine mk_ct (F := f_Chart_has a0 m) (fun _ => oP m) r h (fun _ => rfl) (by decide) (fun _ => Nat.le_of_ble_eq_true rfl) ?_
  intro X hX hE
  show J X (oP m) (f_Chart_has a0 m) m 0 [(0, rX X 10), (1, .int a0)] []
  unfold f_Chart_has
  refine r_iload_n (pc := 0) hX 1 dX1_has_0 rfl rfl ?_
  refine r_if_lt (tgt := 16) (pc := 1) hX dX1_has_1 (by decide) ?_ ?_
  · skip
    refine r_iconst (pc := 16) hX dX1_has_16 ic_0 ?_
    exact r_zretPk (pc := 17) hX hE dX1_has_17 (by decide)
  · skip
    refine r_iload_n (pc := 4) hX 1 dX1_has_4 rfl rfl ?_
    refine r_aload_n (pc := 5) hX 0 dX1_has_5 rfl rfl ?_
    refine r_getI (pc := 6) hX dX1_has_6 fp1_39 k10 (by decide) ?_
    refine r_icmp_ge (tgt := 16) (pc := 9) hX dX1_has_9 (by decide) ?_ ?_
    · skip
      refine r_iconst (pc := 16) hX dX1_has_16 ic_0 ?_
      exact r_zretPk (pc := 17) hX hE dX1_has_17 (by decide)
    · skip
      refine r_iconst (pc := 12) hX dX1_has_12 ic_1 ?_
      refine r_goto (tgt := 17) (pc := 13) hX dX1_has_13 (by decide) ?_
      exact r_zretPk (pc := 17) hX hE dX1_has_17 (by decide)
def f_Chart_waysOf (a0 : Int32) (m : Me) : Option Int32 := rd (ln 11) a0 (m.1 11) (fun v1 => if v1 = 0 then some (8 : Int32) else some (16 : Int32))
set_option maxHeartbeats 4000000 in
set_option maxRecDepth 100000 in
theorem c_Chart_waysOf (a0 : Int32)  (m : Me) (r : Int32) (h : f_Chart_waysOf a0 m = some r) : Ct yX1_waysOf cX1_waysOf 2 (some .int) 0 (fun ad => [.ref (ad 10), .int a0]) m (fun ad => (some (.int r), m)) := by
  refine mk_ct (F := f_Chart_waysOf a0 m) (fun _ => oP m) r h (fun _ => rfl) (by decide) (fun _ => Nat.le_of_ble_eq_true rfl) ?_
  intro X hX hE
  show J X (oP m) (f_Chart_waysOf a0 m) m 0 [(0, rX X 10), (1, .int a0)] []
  unfold f_Chart_waysOf
  refine r_aload_n (pc := 0) hX 0 dX1_waysOf_0 rfl rfl ?_
  refine r_getR (pc := 1) hX dX1_waysOf_1 fp1_9 k10 rfl g10_2 ?_
  refine r_iload_n (pc := 4) hX 1 dX1_waysOf_4 rfl rfl ?_
  refine r_iald (pc := 5) hX dX1_waysOf_5 k11 (fun v1 => ?_)
  refine r_if_ne (tgt := 14) (pc := 6) hX dX1_waysOf_6 (by decide) ?_ ?_
  · skip
    refine r_bipush (pc := 14) hX dX1_waysOf_14 bp_16 ?_
    exact r_iretP (pc := 16) hX hE dX1_waysOf_16
  · skip
    refine r_bipush (pc := 9) hX dX1_waysOf_9 bp_8 ?_
    refine r_goto (tgt := 16) (pc := 11) hX dX1_waysOf_11 (by decide) ?_
    exact r_iretP (pc := 16) hX hE dX1_waysOf_16
def f_Chart_hasWay (a0 : Int32) (a1 : Int32) (m : Me) : Option Int32 := cP (f_Chart_has a0 m) (fun v1 => if v1 = 0 then some (0 : Int32) else if a1 < 0 then some (0 : Int32) else cP (f_Chart_waysOf a0 m) (fun v2 => if v2 ≤ a1 then some (0 : Int32) else some (1 : Int32)))
set_option maxHeartbeats 4000000 in
set_option maxRecDepth 100000 in
theorem c_Chart_hasWay (a0 : Int32) (a1 : Int32)  (m : Me) (r : Int32) (h : f_Chart_hasWay a0 a1 m = some r) : Ct yX1_hasWay cX1_hasWay 3 (some .boolean) 1 (fun ad => [.ref (ad 10), .int a0, .int a1]) m (fun ad => (some (.int r), m)) := by
  refine mk_ct (F := f_Chart_hasWay a0 a1 m) (fun _ => oP m) r h (fun _ => rfl) (by decide) (fun _ => Nat.le_of_ble_eq_true rfl) ?_
  intro X hX hE
  show J X (oP m) (f_Chart_hasWay a0 a1 m) m 0 [(0, rX X 10), (1, .int a0), (2, .int a1)] []
  unfold f_Chart_hasWay
  refine r_aload_n (pc := 0) hX 0 dX1_hasWay_0 rfl rfl ?_
  refine r_iload_n (pc := 1) hX 1 dX1_hasWay_1 rfl rfl ?_
  refine r_cvP (st := []) (pc := 2) hX dX1_hasWay_2 MI_Chart_has MV_Chart_has lkX1_52 k10 (c_Chart_has a0 m) rfl rfl (Nat.le_of_ble_eq_true rfl) (by decide) (fun v1 => ?_)
  refine r_if_eq (tgt := 25) (pc := 5) hX dX1_hasWay_5 (by decide) ?_ ?_
  · skip
    refine r_iconst (pc := 25) hX dX1_hasWay_25 ic_0 ?_
    exact r_zretPk (pc := 26) hX hE dX1_hasWay_26 (by decide)
  · skip
    refine r_iload_n (pc := 8) hX 2 dX1_hasWay_8 rfl rfl ?_
    refine r_if_lt (tgt := 25) (pc := 9) hX dX1_hasWay_9 (by decide) ?_ ?_
    · skip
      refine r_iconst (pc := 25) hX dX1_hasWay_25 ic_0 ?_
      exact r_zretPk (pc := 26) hX hE dX1_hasWay_26 (by decide)
    · skip
      refine r_iload_n (pc := 12) hX 2 dX1_hasWay_12 rfl rfl ?_
      refine r_aload_n (pc := 13) hX 0 dX1_hasWay_13 rfl rfl ?_
      refine r_iload_n (pc := 14) hX 1 dX1_hasWay_14 rfl rfl ?_
      refine r_cvP (st := [.int a1]) (pc := 15) hX dX1_hasWay_15 MI_Chart_waysOf MV_Chart_waysOf lkX1_56 k10 (c_Chart_waysOf a0 m) rfl rfl (Nat.le_of_ble_eq_true rfl) (by decide) (fun v2 => ?_)
      refine r_icmp_ge (tgt := 25) (pc := 18) hX dX1_hasWay_18 (by decide) ?_ ?_
      · skip
        refine r_iconst (pc := 25) hX dX1_hasWay_25 ic_0 ?_
        exact r_zretPk (pc := 26) hX hE dX1_hasWay_26 (by decide)
      · skip
        refine r_iconst (pc := 21) hX dX1_hasWay_21 ic_1 ?_
        refine r_goto (tgt := 26) (pc := 22) hX dX1_hasWay_22 (by decide) ?_
        exact r_zretPk (pc := 26) hX hE dX1_hasWay_26 (by decide)
def f_Chart_isOfKind (a0 : Int32) (a1 : Int32) (m : Me) : Option Int32 := bd (some (1 : Int32)) (fun k29_ => if a1 = 0 then (k29_) else rd (ln 11) a0 (m.1 11) (fun v1 => if a1 = v1 then (k29_) else if a1 = (2 : Int32) then rd (ln 11) a0 (m.1 11) (fun v2 => if v2 = (3 : Int32) then (k29_) else some (0 : Int32)) else some (0 : Int32)))
set_option maxHeartbeats 4000000 in
set_option maxRecDepth 100000 in
theorem c_Chart_isOfKind (a0 : Int32) (a1 : Int32)  (m : Me) (r : Int32) (h : f_Chart_isOfKind a0 a1 m = some r) : Ct yX1_isOfKind cX1_isOfKind 3 (some .boolean) 0 (fun ad => [.ref (ad 10), .int a0, .int a1]) m (fun ad => (some (.int r), m)) := by
  refine mk_ct (F := f_Chart_isOfKind a0 a1 m) (fun _ => oP m) r h (fun _ => rfl) (by decide) (fun _ => Nat.le_of_ble_eq_true rfl) ?_
  intro X hX hE
  show J X (oP m) (f_Chart_isOfKind a0 a1 m) m 0 [(0, rX X 10), (1, .int a0), (2, .int a1)] []
  unfold f_Chart_isOfKind
  refine r_iload_n (pc := 0) hX 2 dX1_isOfKind_0 rfl rfl ?_
  refine r_join (P := fun k => J X (oP m) (k) m 29 [] []) ?_ ?_
  · skip
    refine r_iconst (pc := 29) hX dX1_isOfKind_29 ic_1 ?_
    refine r_goto (tgt := 34) (pc := 30) hX dX1_isOfKind_30 (by decide) ?_
    exact r_zretPk (pc := 34) hX hE dX1_isOfKind_34 (by decide)
  intro k29_ hk29_
  refine r_if_eq (tgt := 29) (pc := 1) hX dX1_isOfKind_1 (by decide) ?_ ?_
  · skip
    exact r_sub [] rfl (hk29_)
  · skip
    refine r_iload_n (pc := 4) hX 2 dX1_isOfKind_4 rfl rfl ?_
    refine r_aload_n (pc := 5) hX 0 dX1_isOfKind_5 rfl rfl ?_
    refine r_getR (pc := 6) hX dX1_isOfKind_6 fp1_9 k10 rfl g10_2 ?_
    refine r_iload_n (pc := 9) hX 1 dX1_isOfKind_9 rfl rfl ?_
    refine r_iald (pc := 10) hX dX1_isOfKind_10 k11 (fun v1 => ?_)
    refine r_icmp_eq (tgt := 29) (pc := 11) hX dX1_isOfKind_11 (by decide) ?_ ?_
    · skip
      exact r_sub [] rfl (hk29_)
    · skip
      refine r_iload_n (pc := 14) hX 2 dX1_isOfKind_14 rfl rfl ?_
      refine r_iconst (pc := 15) hX dX1_isOfKind_15 ic_2 ?_
      refine r_icmp_ne (tgt := 33) (pc := 16) hX dX1_isOfKind_16 (by decide) ?_ ?_
      · skip
        refine r_iconst (pc := 33) hX dX1_isOfKind_33 ic_0 ?_
        exact r_zretPk (pc := 34) hX hE dX1_isOfKind_34 (by decide)
      · skip
        refine r_aload_n (pc := 19) hX 0 dX1_isOfKind_19 rfl rfl ?_
        refine r_getR (pc := 20) hX dX1_isOfKind_20 fp1_9 k10 rfl g10_2 ?_
        refine r_iload_n (pc := 23) hX 1 dX1_isOfKind_23 rfl rfl ?_
        refine r_iald (pc := 24) hX dX1_isOfKind_24 k11 (fun v2 => ?_)
        refine r_iconst (pc := 25) hX dX1_isOfKind_25 ic_3 ?_
        refine r_icmp_ne (tgt := 33) (pc := 26) hX dX1_isOfKind_26 (by decide) ?_ ?_
        · skip
          refine r_iconst (pc := 33) hX dX1_isOfKind_33 ic_0 ?_
          exact r_zretPk (pc := 34) hX hE dX1_isOfKind_34 (by decide)
        · skip
          exact r_sub [] rfl (hk29_)
def f_Chart_priceOf (a0 : Int32) (a1 : Int32) (m : Me) : Option Int32 := if (8 : Int32) ≤ a1 then rd (ln 11) a0 (m.1 11) (fun v1 => if v1 = (1 : Int32) then some ((((5 : Int32) * ((a1 - (8 : Int32))))) + (20 : Int32)) else some ((((5 : Int32) * ((a1 - (8 : Int32))))) + (50 : Int32))) else some ((5 : Int32) * a1)
set_option maxHeartbeats 4000000 in
set_option maxRecDepth 100000 in
theorem c_Chart_priceOf (a0 : Int32) (a1 : Int32)  (m : Me) (r : Int32) (h : f_Chart_priceOf a0 a1 m = some r) : Ct yX1_priceOf cX1_priceOf 3 (some .int) 0 (fun ad => [.ref (ad 10), .int a0, .int a1]) m (fun ad => (some (.int r), m)) := by
  refine mk_ct (F := f_Chart_priceOf a0 a1 m) (fun _ => oP m) r h (fun _ => rfl) (by decide) (fun _ => Nat.le_of_ble_eq_true rfl) ?_
  intro X hX hE
  show J X (oP m) (f_Chart_priceOf a0 a1 m) m 0 [(0, rX X 10), (1, .int a0), (2, .int a1)] []
  unfold f_Chart_priceOf
  refine r_iload_n (pc := 0) hX 2 dX1_priceOf_0 rfl rfl ?_
  refine r_bipush (pc := 1) hX dX1_priceOf_1 bp_8 ?_
  refine r_icmp_ge (tgt := 10) (pc := 3) hX dX1_priceOf_3 (by decide) ?_ ?_
  · skip
    refine r_iconst (pc := 10) hX dX1_priceOf_10 ic_5 ?_
    refine r_iload_n (pc := 11) hX 2 dX1_priceOf_11 rfl rfl ?_
    refine r_bipush (pc := 12) hX dX1_priceOf_12 bp_8 ?_
    refine r_isub (pc := 14) hX dX1_priceOf_14 ?_
    refine r_imul (pc := 15) hX dX1_priceOf_15 ?_
    refine r_aload_n (pc := 16) hX 0 dX1_priceOf_16 rfl rfl ?_
    refine r_getR (pc := 17) hX dX1_priceOf_17 fp1_9 k10 rfl g10_2 ?_
    refine r_iload_n (pc := 20) hX 1 dX1_priceOf_20 rfl rfl ?_
    refine r_iald (pc := 21) hX dX1_priceOf_21 k11 (fun v1 => ?_)
    refine r_iconst (pc := 22) hX dX1_priceOf_22 ic_1 ?_
    refine r_icmp_ne (tgt := 31) (pc := 23) hX dX1_priceOf_23 (by decide) ?_ ?_
    · skip
      refine r_bipush (pc := 31) hX dX1_priceOf_31 bp_50 ?_
      refine r_iadd (pc := 33) hX dX1_priceOf_33 ?_
      exact r_iretP (pc := 34) hX hE dX1_priceOf_34
    · skip
      refine r_bipush (pc := 26) hX dX1_priceOf_26 bp_20 ?_
      refine r_goto (tgt := 33) (pc := 28) hX dX1_priceOf_28 (by decide) ?_
      refine r_iadd (pc := 33) hX dX1_priceOf_33 ?_
      exact r_iretP (pc := 34) hX hE dX1_priceOf_34
  · skip
    refine r_iconst (pc := 6) hX dX1_priceOf_6 ic_5 ?_
    refine r_iload_n (pc := 7) hX 2 dX1_priceOf_7 rfl rfl ?_
    refine r_imul (pc := 8) hX dX1_priceOf_8 ?_
    exact r_iretP (pc := 9) hX hE dX1_priceOf_9
def f_Chart_wayByPrice (a0 : Int32) (a1 : Int32) (m : Me) : Option Int32 := rd (ln 11) a0 (m.1 11) (fun v1 => if v1 = (1 : Int32) then rd (stl 2) a1 (stt 2) (fun v2 => some v2) else some a1)
set_option maxHeartbeats 4000000 in
set_option maxRecDepth 100000 in
theorem c_Chart_wayByPrice (a0 : Int32) (a1 : Int32)  (m : Me) (r : Int32) (h : f_Chart_wayByPrice a0 a1 m = some r) : Ct yX1_wayByPrice cX1_wayByPrice 3 (some .int) 0 (fun ad => [.ref (ad 10), .int a0, .int a1]) m (fun ad => (some (.int r), m)) := by
  refine mk_ct (F := f_Chart_wayByPrice a0 a1 m) (fun _ => oP m) r h (fun _ => rfl) (by decide) (fun _ => Nat.le_of_ble_eq_true rfl) ?_
  intro X hX hE
  show J X (oP m) (f_Chart_wayByPrice a0 a1 m) m 0 [(0, rX X 10), (1, .int a0), (2, .int a1)] []
  unfold f_Chart_wayByPrice
  refine r_aload_n (pc := 0) hX 0 dX1_wayByPrice_0 rfl rfl ?_
  refine r_getR (pc := 1) hX dX1_wayByPrice_1 fp1_9 k10 rfl g10_2 ?_
  refine r_iload_n (pc := 4) hX 1 dX1_wayByPrice_4 rfl rfl ?_
  refine r_iald (pc := 5) hX dX1_wayByPrice_5 k11 (fun v1 => ?_)
  refine r_iconst (pc := 6) hX dX1_wayByPrice_6 ic_1 ?_
  refine r_icmp_ne (tgt := 18) (pc := 7) hX dX1_wayByPrice_7 (by decide) ?_ ?_
  · skip
    refine r_iload_n (pc := 18) hX 2 dX1_wayByPrice_18 rfl rfl ?_
    exact r_iretP (pc := 19) hX hE dX1_wayByPrice_19
  · skip
    refine r_gets (pc := 10) hX 2 (by decide) dX1_wayByPrice_10 rfl ?_
    refine r_iload_n (pc := 13) hX 2 dX1_wayByPrice_13 rfl rfl ?_
    refine r_sald (pc := 14) hX 2 (by decide) dX1_wayByPrice_14 (fun v2 => ?_)
    refine r_goto (tgt := 19) (pc := 15) hX dX1_wayByPrice_15 (by decide) ?_
    exact r_iretP (pc := 19) hX hE dX1_wayByPrice_19
def f_Chart_rankOf (a0 : Int32) (a1 : Int32) (m : Me) : Option Int32 := rd (ln 11) a0 (m.1 11) (fun v1 => if v1 = (1 : Int32) then rd (stl 3) a1 (stt 3) (fun v2 => some v2) else some a1)
set_option maxHeartbeats 4000000 in
set_option maxRecDepth 100000 in
theorem c_Chart_rankOf (a0 : Int32) (a1 : Int32)  (m : Me) (r : Int32) (h : f_Chart_rankOf a0 a1 m = some r) : Ct yX1_rankOf cX1_rankOf 3 (some .int) 0 (fun ad => [.ref (ad 10), .int a0, .int a1]) m (fun ad => (some (.int r), m)) := by
  refine mk_ct (F := f_Chart_rankOf a0 a1 m) (fun _ => oP m) r h (fun _ => rfl) (by decide) (fun _ => Nat.le_of_ble_eq_true rfl) ?_
  intro X hX hE
  show J X (oP m) (f_Chart_rankOf a0 a1 m) m 0 [(0, rX X 10), (1, .int a0), (2, .int a1)] []
  unfold f_Chart_rankOf
  refine r_aload_n (pc := 0) hX 0 dX1_rankOf_0 rfl rfl ?_
  refine r_getR (pc := 1) hX dX1_rankOf_1 fp1_9 k10 rfl g10_2 ?_
  refine r_iload_n (pc := 4) hX 1 dX1_rankOf_4 rfl rfl ?_
  refine r_iald (pc := 5) hX dX1_rankOf_5 k11 (fun v1 => ?_)
  refine r_iconst (pc := 6) hX dX1_rankOf_6 ic_1 ?_
  refine r_icmp_ne (tgt := 18) (pc := 7) hX dX1_rankOf_7 (by decide) ?_ ?_
  · skip
    refine r_iload_n (pc := 18) hX 2 dX1_rankOf_18 rfl rfl ?_
    exact r_iretP (pc := 19) hX hE dX1_rankOf_19
  · skip
    refine r_gets (pc := 10) hX 3 (by decide) dX1_rankOf_10 rfl ?_
    refine r_iload_n (pc := 13) hX 2 dX1_rankOf_13 rfl rfl ?_
    refine r_sald (pc := 14) hX 3 (by decide) dX1_rankOf_14 (fun v2 => ?_)
    refine r_goto (tgt := 19) (pc := 15) hX dX1_rankOf_15 (by decide) ?_
    exact r_iretP (pc := 19) hX hE dX1_rankOf_19
def f_Chart_gainOf (a0 : Int32) (a1 : Int32) (m : Me) : Option Int32 := rd (ln 16) a0 (m.1 16) (fun v1 => cP (f_Chart_priceOf a0 a1 m) (fun v2 => some (v1 * (((200 : Int32) - v2)))))
set_option maxHeartbeats 4000000 in
set_option maxRecDepth 100000 in
theorem c_Chart_gainOf (a0 : Int32) (a1 : Int32)  (m : Me) (r : Int32) (h : f_Chart_gainOf a0 a1 m = some r) : Ct yX1_gainOf cX1_gainOf 3 (some .int) 1 (fun ad => [.ref (ad 10), .int a0, .int a1]) m (fun ad => (some (.int r), m)) := by
  refine mk_ct (F := f_Chart_gainOf a0 a1 m) (fun _ => oP m) r h (fun _ => rfl) (by decide) (fun _ => Nat.le_of_ble_eq_true rfl) ?_
  intro X hX hE
  show J X (oP m) (f_Chart_gainOf a0 a1 m) m 0 [(0, rX X 10), (1, .int a0), (2, .int a1)] []
  unfold f_Chart_gainOf
  refine r_aload_n (pc := 0) hX 0 dX1_gainOf_0 rfl rfl ?_
  refine r_getR (pc := 1) hX dX1_gainOf_1 fp1_27 k10 rfl g10_7 ?_
  refine r_iload_n (pc := 4) hX 1 dX1_gainOf_4 rfl rfl ?_
  refine r_iald (pc := 5) hX dX1_gainOf_5 k16 (fun v1 => ?_)
  refine r_sipush (pc := 6) hX dX1_gainOf_6 sp_200 ?_
  refine r_aload_n (pc := 9) hX 0 dX1_gainOf_9 rfl rfl ?_
  refine r_iload_n (pc := 10) hX 1 dX1_gainOf_10 rfl rfl ?_
  refine r_iload_n (pc := 11) hX 2 dX1_gainOf_11 rfl rfl ?_
  refine r_cvP (st := [.int (200 : Int32), .int v1]) (pc := 12) hX dX1_gainOf_12 MI_Chart_priceOf MV_Chart_priceOf lkX1_66 k10 (c_Chart_priceOf a0 a1 m) rfl rfl (Nat.le_of_ble_eq_true rfl) (by decide) (fun v2 => ?_)
  refine r_isub (pc := 15) hX dX1_gainOf_15 ?_
  refine r_imul (pc := 16) hX dX1_gainOf_16 ?_
  exact r_iretP (pc := 17) hX hE dX1_gainOf_17
def f_Chart_reachAcross (a0 : Int32) (m : Me) : Option Int32 := rd (ln 14) a0 (m.1 14) (fun v1 => cP (f_Chart_isOfKind a0 (2 : Int32) m) (fun v2 => if v2 = 0 then some (v1 + (2 : Int32)) else some (v1 + (40 : Int32))))
set_option maxHeartbeats 4000000 in
set_option maxRecDepth 100000 in
theorem c_Chart_reachAcross (a0 : Int32)  (m : Me) (r : Int32) (h : f_Chart_reachAcross a0 m = some r) : Ct yX1_reachAcross cX1_reachAcross 2 (some .int) 1 (fun ad => [.ref (ad 10), .int a0]) m (fun ad => (some (.int r), m)) := by
  refine mk_ct (F := f_Chart_reachAcross a0 m) (fun _ => oP m) r h (fun _ => rfl) (by decide) (fun _ => Nat.le_of_ble_eq_true rfl) ?_
  intro X hX hE
  show J X (oP m) (f_Chart_reachAcross a0 m) m 0 [(0, rX X 10), (1, .int a0)] []
  unfold f_Chart_reachAcross
  refine r_aload_n (pc := 0) hX 0 dX1_reachAcross_0 rfl rfl ?_
  refine r_getR (pc := 1) hX dX1_reachAcross_1 fp1_21 k10 rfl g10_5 ?_
  refine r_iload_n (pc := 4) hX 1 dX1_reachAcross_4 rfl rfl ?_
  refine r_iald (pc := 5) hX dX1_reachAcross_5 k14 (fun v1 => ?_)
  refine r_aload_n (pc := 6) hX 0 dX1_reachAcross_6 rfl rfl ?_
  refine r_iload_n (pc := 7) hX 1 dX1_reachAcross_7 rfl rfl ?_
  refine r_iconst (pc := 8) hX dX1_reachAcross_8 ic_2 ?_
  refine r_cvP (st := [.int v1]) (pc := 9) hX dX1_reachAcross_9 MI_Chart_isOfKind MV_Chart_isOfKind lkX1_81 k10 (c_Chart_isOfKind a0 (2 : Int32) m) rfl rfl (Nat.le_of_ble_eq_true rfl) (by decide) (fun v2 => ?_)
  refine r_if_eq (tgt := 20) (pc := 12) hX dX1_reachAcross_12 (by decide) ?_ ?_
  · skip
    refine r_iconst (pc := 20) hX dX1_reachAcross_20 ic_2 ?_
    refine r_iadd (pc := 21) hX dX1_reachAcross_21 ?_
    exact r_iretP (pc := 22) hX hE dX1_reachAcross_22
  · skip
    refine r_bipush (pc := 15) hX dX1_reachAcross_15 bp_40 ?_
    refine r_goto (tgt := 21) (pc := 17) hX dX1_reachAcross_17 (by decide) ?_
    refine r_iadd (pc := 21) hX dX1_reachAcross_21 ?_
    exact r_iretP (pc := 22) hX hE dX1_reachAcross_22
def f_Chart_reachDown (a0 : Int32) (m : Me) : Option Int32 := rd (ln 11) a0 (m.1 11) (fun v1 => bd (fun (v2 : Int32) => cP (f_Chart_isOfKind a0 (2 : Int32) m) (fun v3 => if v3 = 0 then some (v2 + (2 : Int32)) else some (v2 + (40 : Int32)))) (fun k27_ => if v1 = (1 : Int32) then rd (ln 15) a0 (m.1 15) (fun v5 => (k27_ (((2 : Int32) * v5)))) else rd (ln 15) a0 (m.1 15) (fun v4 => (k27_ v4))))
set_option maxHeartbeats 4000000 in
set_option maxRecDepth 100000 in
theorem c_Chart_reachDown (a0 : Int32)  (m : Me) (r : Int32) (h : f_Chart_reachDown a0 m = some r) : Ct yX1_reachDown cX1_reachDown 2 (some .int) 1 (fun ad => [.ref (ad 10), .int a0]) m (fun ad => (some (.int r), m)) := by
  refine mk_ct (F := f_Chart_reachDown a0 m) (fun _ => oP m) r h (fun _ => rfl) (by decide) (fun _ => Nat.le_of_ble_eq_true rfl) ?_
  intro X hX hE
  show J X (oP m) (f_Chart_reachDown a0 m) m 0 [(0, rX X 10), (1, .int a0)] []
  unfold f_Chart_reachDown
  refine r_aload_n (pc := 0) hX 0 dX1_reachDown_0 rfl rfl ?_
  refine r_getR (pc := 1) hX dX1_reachDown_1 fp1_9 k10 rfl g10_2 ?_
  refine r_iload_n (pc := 4) hX 1 dX1_reachDown_4 rfl rfl ?_
  refine r_iald (pc := 5) hX dX1_reachDown_5 k11 (fun v1 => ?_)
  refine r_iconst (pc := 6) hX dX1_reachDown_6 ic_1 ?_
  refine r_join (P := fun k => ∀ (v2 : Int32), J X (oP m) (k v2) m 27 [(0, rX X 10), (1, .int a0)] [.int v2]) ?_ ?_
  · intro v2
    refine r_aload_n (pc := 27) hX 0 dX1_reachDown_27 rfl rfl ?_
    refine r_iload_n (pc := 28) hX 1 dX1_reachDown_28 rfl rfl ?_
    refine r_iconst (pc := 29) hX dX1_reachDown_29 ic_2 ?_
    refine r_cvP (st := [.int v2]) (pc := 30) hX dX1_reachDown_30 MI_Chart_isOfKind MV_Chart_isOfKind lkX1_81 k10 (c_Chart_isOfKind a0 (2 : Int32) m) rfl rfl (Nat.le_of_ble_eq_true rfl) (by decide) (fun v3 => ?_)
    refine r_if_eq (tgt := 41) (pc := 33) hX dX1_reachDown_33 (by decide) ?_ ?_
    · skip
      refine r_iconst (pc := 41) hX dX1_reachDown_41 ic_2 ?_
      refine r_iadd (pc := 42) hX dX1_reachDown_42 ?_
      exact r_iretP (pc := 43) hX hE dX1_reachDown_43
    · skip
      refine r_bipush (pc := 36) hX dX1_reachDown_36 bp_40 ?_
      refine r_goto (tgt := 42) (pc := 38) hX dX1_reachDown_38 (by decide) ?_
      refine r_iadd (pc := 42) hX dX1_reachDown_42 ?_
      exact r_iretP (pc := 43) hX hE dX1_reachDown_43
  intro k27_ hk27_
  refine r_icmp_ne (tgt := 21) (pc := 7) hX dX1_reachDown_7 (by decide) ?_ ?_
  · skip
    refine r_aload_n (pc := 21) hX 0 dX1_reachDown_21 rfl rfl ?_
    refine r_getR (pc := 22) hX dX1_reachDown_22 fp1_24 k10 rfl g10_6 ?_
    refine r_iload_n (pc := 25) hX 1 dX1_reachDown_25 rfl rfl ?_
    refine r_iald (pc := 26) hX dX1_reachDown_26 k15 (fun v4 => ?_)
    exact hk27_ v4
  · skip
    refine r_iconst (pc := 10) hX dX1_reachDown_10 ic_2 ?_
    refine r_aload_n (pc := 11) hX 0 dX1_reachDown_11 rfl rfl ?_
    refine r_getR (pc := 12) hX dX1_reachDown_12 fp1_24 k10 rfl g10_6 ?_
    refine r_iload_n (pc := 15) hX 1 dX1_reachDown_15 rfl rfl ?_
    refine r_iald (pc := 16) hX dX1_reachDown_16 k15 (fun v5 => ?_)
    refine r_imul (pc := 17) hX dX1_reachDown_17 ?_
    refine r_goto (tgt := 27) (pc := 18) hX dX1_reachDown_18 (by decide) ?_
    exact hk27_ (((2 : Int32) * v5))
def f_Chart_areNear (a0 : Int32) (a1 : Int32) (m : Me) : Option Int32 := rd (ln 12) a0 (m.1 12) (fun v1 => rd (ln 12) a1 (m.1 12) (fun v2 => cP (f_Chart_reachAcross a0 m) (fun v3 => cP (f_Chart_reachAcross a1 m) (fun v4 => if (v3 + v4) ≤ (mb (v1 - v2)) then some (0 : Int32) else rd (ln 13) a0 (m.1 13) (fun v5 => rd (ln 13) a1 (m.1 13) (fun v6 => cP (f_Chart_reachDown a0 m) (fun v7 => cP (f_Chart_reachDown a1 m) (fun v8 => if (v7 + v8) ≤ (mb (v5 - v6)) then some (0 : Int32) else some (1 : Int32)))))))))
set_option maxHeartbeats 4000000 in
set_option maxRecDepth 100000 in
theorem c_Chart_areNear (a0 : Int32) (a1 : Int32)  (m : Me) (r : Int32) (h : f_Chart_areNear a0 a1 m = some r) : Ct yX1_areNear cX1_areNear 3 (some .boolean) 2 (fun ad => [.ref (ad 10), .int a0, .int a1]) m (fun ad => (some (.int r), m)) := by
  refine mk_ct (F := f_Chart_areNear a0 a1 m) (fun _ => oP m) r h (fun _ => rfl) (by decide) (fun _ => Nat.le_of_ble_eq_true rfl) ?_
  intro X hX hE
  show J X (oP m) (f_Chart_areNear a0 a1 m) m 0 [(0, rX X 10), (1, .int a0), (2, .int a1)] []
  unfold f_Chart_areNear
  refine r_aload_n (pc := 0) hX 0 dX1_areNear_0 rfl rfl ?_
  refine r_getR (pc := 1) hX dX1_areNear_1 fp1_15 k10 rfl g10_3 ?_
  refine r_iload_n (pc := 4) hX 1 dX1_areNear_4 rfl rfl ?_
  refine r_iald (pc := 5) hX dX1_areNear_5 k12 (fun v1 => ?_)
  refine r_aload_n (pc := 6) hX 0 dX1_areNear_6 rfl rfl ?_
  refine r_getR (pc := 7) hX dX1_areNear_7 fp1_15 k10 rfl g10_3 ?_
  refine r_iload_n (pc := 10) hX 2 dX1_areNear_10 rfl rfl ?_
  refine r_iald (pc := 11) hX dX1_areNear_11 k12 (fun v2 => ?_)
  refine r_isub (pc := 12) hX dX1_areNear_12 ?_
  refine r_mabs (st := []) (pc := 13) hX dX1_areNear_13 lkM1_70 (Nat.le_of_ble_eq_true rfl) (by omega) ?_
  refine r_aload_n (pc := 16) hX 0 dX1_areNear_16 rfl rfl ?_
  refine r_iload_n (pc := 17) hX 1 dX1_areNear_17 rfl rfl ?_
  refine r_cvP (st := [.int (mb (v1 - v2))]) (pc := 18) hX dX1_areNear_18 MI_Chart_reachAcross MV_Chart_reachAcross lkX1_75 k10 (c_Chart_reachAcross a0 m) rfl rfl (Nat.le_of_ble_eq_true rfl) (by decide) (fun v3 => ?_)
  refine r_aload_n (pc := 21) hX 0 dX1_areNear_21 rfl rfl ?_
  refine r_iload_n (pc := 22) hX 2 dX1_areNear_22 rfl rfl ?_
  refine r_cvP (st := [.int v3, .int (mb (v1 - v2))]) (pc := 23) hX dX1_areNear_23 MI_Chart_reachAcross MV_Chart_reachAcross lkX1_75 k10 (c_Chart_reachAcross a1 m) rfl rfl (Nat.le_of_ble_eq_true rfl) (by decide) (fun v4 => ?_)
  refine r_iadd (pc := 26) hX dX1_areNear_26 ?_
  refine r_icmp_ge (tgt := 64) (pc := 27) hX dX1_areNear_27 (by decide) ?_ ?_
  · skip
    refine r_iconst (pc := 64) hX dX1_areNear_64 ic_0 ?_
    exact r_zretPk (pc := 65) hX hE dX1_areNear_65 (by decide)
  · skip
    refine r_aload_n (pc := 30) hX 0 dX1_areNear_30 rfl rfl ?_
    refine r_getR (pc := 31) hX dX1_areNear_31 fp1_18 k10 rfl g10_4 ?_
    refine r_iload_n (pc := 34) hX 1 dX1_areNear_34 rfl rfl ?_
    refine r_iald (pc := 35) hX dX1_areNear_35 k13 (fun v5 => ?_)
    refine r_aload_n (pc := 36) hX 0 dX1_areNear_36 rfl rfl ?_
    refine r_getR (pc := 37) hX dX1_areNear_37 fp1_18 k10 rfl g10_4 ?_
    refine r_iload_n (pc := 40) hX 2 dX1_areNear_40 rfl rfl ?_
    refine r_iald (pc := 41) hX dX1_areNear_41 k13 (fun v6 => ?_)
    refine r_isub (pc := 42) hX dX1_areNear_42 ?_
    refine r_mabs (st := []) (pc := 43) hX dX1_areNear_43 lkM1_70 (Nat.le_of_ble_eq_true rfl) (by omega) ?_
    refine r_aload_n (pc := 46) hX 0 dX1_areNear_46 rfl rfl ?_
    refine r_iload_n (pc := 47) hX 1 dX1_areNear_47 rfl rfl ?_
    refine r_cvP (st := [.int (mb (v5 - v6))]) (pc := 48) hX dX1_areNear_48 MI_Chart_reachDown MV_Chart_reachDown lkX1_78 k10 (c_Chart_reachDown a0 m) rfl rfl (Nat.le_of_ble_eq_true rfl) (by decide) (fun v7 => ?_)
    refine r_aload_n (pc := 51) hX 0 dX1_areNear_51 rfl rfl ?_
    refine r_iload_n (pc := 52) hX 2 dX1_areNear_52 rfl rfl ?_
    refine r_cvP (st := [.int v7, .int (mb (v5 - v6))]) (pc := 53) hX dX1_areNear_53 MI_Chart_reachDown MV_Chart_reachDown lkX1_78 k10 (c_Chart_reachDown a1 m) rfl rfl (Nat.le_of_ble_eq_true rfl) (by decide) (fun v8 => ?_)
    refine r_iadd (pc := 56) hX dX1_areNear_56 ?_
    refine r_icmp_ge (tgt := 64) (pc := 57) hX dX1_areNear_57 (by decide) ?_ ?_
    · skip
      refine r_iconst (pc := 64) hX dX1_areNear_64 ic_0 ?_
      exact r_zretPk (pc := 65) hX hE dX1_areNear_65 (by decide)
    · skip
      refine r_iconst (pc := 60) hX dX1_areNear_60 ic_1 ?_
      refine r_goto (tgt := 65) (pc := 61) hX dX1_areNear_61 (by decide) ?_
      exact r_zretPk (pc := 65) hX hE dX1_areNear_65 (by decide)
def f_Chart_isServedAhead (a0 : Int32) (a1 : Int32) (m : Me) : Option Int32 := rd (ln 11) a0 (m.1 11) (fun v1 => bd (fun (v2 : Int32) => rd (ln 11) a1 (m.1 11) (fun v3 => bd (fun (v4 : Int32) => if v2 = v4 then rd (ln 16) a0 (m.1 16) (fun v5 => rd (ln 16) a1 (m.1 16) (fun v6 => if v5 ≤ v6 then some (0 : Int32) else some (1 : Int32))) else zg v2 v2) (fun k32_ => if v3 = (3 : Int32) then (k32_ (1 : Int32)) else (k32_ (0 : Int32))))) (fun k15_ => if v1 = (3 : Int32) then (k15_ (1 : Int32)) else (k15_ (0 : Int32))))
set_option maxHeartbeats 4000000 in
set_option maxRecDepth 100000 in
theorem c_Chart_isServedAhead (a0 : Int32) (a1 : Int32)  (m : Me) (r : Int32) (h : f_Chart_isServedAhead a0 a1 m = some r) : Ct yX1_isServedAhead cX1_isServedAhead 4 (some .boolean) 0 (fun ad => [.ref (ad 10), .int a0, .int a1]) m (fun ad => (some (.int r), m)) := by
  refine mk_ct (F := f_Chart_isServedAhead a0 a1 m) (fun _ => oP m) r h (fun _ => rfl) (by decide) (fun _ => Nat.le_of_ble_eq_true rfl) ?_
  intro X hX hE
  show J X (oP m) (f_Chart_isServedAhead a0 a1 m) m 0 [(0, rX X 10), (1, .int a0), (2, .int a1)] []
  unfold f_Chart_isServedAhead
  refine r_aload_n (pc := 0) hX 0 dX1_isServedAhead_0 rfl rfl ?_
  refine r_getR (pc := 1) hX dX1_isServedAhead_1 fp1_9 k10 rfl g10_2 ?_
  refine r_iload_n (pc := 4) hX 1 dX1_isServedAhead_4 rfl rfl ?_
  refine r_iald (pc := 5) hX dX1_isServedAhead_5 k11 (fun v1 => ?_)
  refine r_iconst (pc := 6) hX dX1_isServedAhead_6 ic_3 ?_
  refine r_join (P := fun k => ∀ (v2 : Int32), J X (oP m) (k v2) m 15 [(0, rX X 10), (1, .int a0), (2, .int a1)] [.int v2]) ?_ ?_
  · intro v2
    refine r_istore_n (L' := [(3, .int v2), (0, rX X 10), (1, .int a0), (2, .int a1)]) (pc := 15) hX dX1_isServedAhead_15 rfl (by decide) rfl ?_
    refine r_iload_n (pc := 16) hX 0 dX1_isServedAhead_16 rfl rfl ?_
    refine r_aload_n (pc := 17) hX 1 dX1_isServedAhead_17 rfl rfl ?_
    refine r_getR (pc := 18) hX dX1_isServedAhead_18 fp1_9 k10 rfl g10_2 ?_
    refine r_iload_n (pc := 21) hX 3 dX1_isServedAhead_21 rfl rfl ?_
    refine r_iald (pc := 22) hX dX1_isServedAhead_22 k11 (fun v3 => ?_)
    refine r_iconst (pc := 23) hX dX1_isServedAhead_23 ic_3 ?_
    refine r_join (P := fun k => ∀ (v4 : Int32), J X (oP m) (k v4) m 32 [(0, rX X 10), (1, .int a0), (2, .int a1), (3, .int v2)] [.int v4, .int v2]) ?_ ?_
    · intro v4
      refine r_icmp_eq (tgt := 37) (pc := 32) hX dX1_isServedAhead_32 (by decide) ?_ ?_
      · skip
        refine r_aload_n (pc := 37) hX 0 dX1_isServedAhead_37 rfl rfl ?_
        refine r_getR (pc := 38) hX dX1_isServedAhead_38 fp1_27 k10 rfl g10_7 ?_
        refine r_iload_n (pc := 41) hX 1 dX1_isServedAhead_41 rfl rfl ?_
        refine r_iald (pc := 42) hX dX1_isServedAhead_42 k16 (fun v5 => ?_)
        refine r_aload_n (pc := 43) hX 0 dX1_isServedAhead_43 rfl rfl ?_
        refine r_getR (pc := 44) hX dX1_isServedAhead_44 fp1_27 k10 rfl g10_7 ?_
        refine r_iload_n (pc := 47) hX 2 dX1_isServedAhead_47 rfl rfl ?_
        refine r_iald (pc := 48) hX dX1_isServedAhead_48 k16 (fun v6 => ?_)
        refine r_icmp_le (tgt := 56) (pc := 49) hX dX1_isServedAhead_49 (by decide) ?_ ?_
        · skip
          refine r_iconst (pc := 56) hX dX1_isServedAhead_56 ic_0 ?_
          exact r_zretPk (pc := 57) hX hE dX1_isServedAhead_57 (by decide)
        · skip
          refine r_iconst (pc := 52) hX dX1_isServedAhead_52 ic_1 ?_
          refine r_goto (tgt := 57) (pc := 53) hX dX1_isServedAhead_53 (by decide) ?_
          exact r_zretPk (pc := 57) hX hE dX1_isServedAhead_57 (by decide)
      · skip
        refine r_iload_n (pc := 35) hX 3 dX1_isServedAhead_35 rfl rfl ?_
        exact r_zretP (pc := 36) hX hE dX1_isServedAhead_36
    intro k32_ hk32_
    refine r_icmp_ne (tgt := 31) (pc := 24) hX dX1_isServedAhead_24 (by decide) ?_ ?_
    · skip
      refine r_iconst (pc := 31) hX dX1_isServedAhead_31 ic_0 ?_
      exact r_sub [1, 2, 3, 0] rfl (hk32_ (0 : Int32))
    · skip
      refine r_iconst (pc := 27) hX dX1_isServedAhead_27 ic_1 ?_
      refine r_goto (tgt := 32) (pc := 28) hX dX1_isServedAhead_28 (by decide) ?_
      exact r_sub [1, 2, 3, 0] rfl (hk32_ (1 : Int32))
  intro k15_ hk15_
  refine r_icmp_ne (tgt := 14) (pc := 7) hX dX1_isServedAhead_7 (by decide) ?_ ?_
  · skip
    refine r_iconst (pc := 14) hX dX1_isServedAhead_14 ic_0 ?_
    exact hk15_ (0 : Int32)
  · skip
    refine r_iconst (pc := 10) hX dX1_isServedAhead_10 ic_1 ?_
    refine r_goto (tgt := 15) (pc := 11) hX dX1_isServedAhead_11 (by decide) ?_
    exact hk15_ (1 : Int32)
def lb_Chart_queue_12 (a0 : Nat) (v1 : Int32) (k43_ : Int32 → Me → Option Me) (s12 : Int32 → Me → Option Me) (v7 : Int32) (m8 : Me) : Option Me := if v7 ≤ 0 then (k43_ v7 m8) else rd (ln a0) (v7 - (1 : Int32)) (m8.1 a0) (fun v9 => cP (f_Chart_isServedAhead v1 v9 m8) (fun v10 => if v10 = 0 then (k43_ v7 m8) else rd (ln a0) (v7 - (1 : Int32)) (m8.1 a0) (fun v11 => wi m8 a0 (ln a0) v7 v11 (fun m12 => bd (v7 + Int32.ofInt (-1)) (fun v13 => (s12 v13 m12))))))
def lb_Chart_queue_2 (a0 : Nat) (s2 : Int32 → Me → Option Me) (v1 : Int32) (m2 : Me) : Option Me := if (m2.1 10 0) ≤ v1 then some m2 else bd (fun (v3 : Int32) (m4 : Me) => wi m4 a0 (ln a0) v3 v1 (fun m5 => bd (v1 + 1) (fun v6 => (s2 v6 m5)))) (fun k43_ => ((fx (lb_Chart_queue_12 a0 v1 k43_) (fun _ _ => none) FU) v1 m2))
def f_Chart_queue (a0 : Nat) (m : Me) : Option Me := ((fx (lb_Chart_queue_2 a0) (fun _ _ => none) FU) (0 : Int32) m)
set_option maxHeartbeats 4000000 in
set_option maxRecDepth 100000 in
theorem c_Chart_queue (a0 : Nat) (ha0 : kd a0 = 20) (m : Me) (r : Me) (h : f_Chart_queue a0 m = some r) : Ct yX1_queue cX1_queue 4 none 1 (fun ad => [.ref (ad 10), .ref (ad a0)]) m (fun ad => (none, r)) := by
  refine mk_ct (F := f_Chart_queue a0 m) (fun _ => oV) r h (fun _ => rfl) (by decide) (fun _ => Nat.le_of_ble_eq_true rfl) ?_
  intro X hX hE
  show J X oV (f_Chart_queue a0 m) m 0 [(0, rX X 10), (1, rX X a0)] []
  unfold f_Chart_queue
  refine r_iconst (pc := 0) hX dX1_queue_0 ic_0 ?_
  refine r_istore_n (L' := [(2, .int (0 : Int32)), (0, rX X 10), (1, rX X a0)]) (pc := 1) hX dX1_queue_1 rfl (by decide) rfl ?_
  have hl2 : ∀ n : Nat, ∀ (v1 : Int32) (m2 : Me), J X oV (fx (lb_Chart_queue_2 a0) (fun _ _ => none) n v1 m2) m2 2 [(0, rX X 10), (1, rX X a0), (2, .int v1)] [] := by
    refine fx_ind (fun (f : Int32 → Me → Option Me) => ∀ (v1 : Int32) (m2 : Me), J X oV (f v1 m2) m2 2 [(0, rX X 10), (1, rX X a0), (2, .int v1)] []) (fun _ _ => r_none) ?_
    intro s2 hs2 v1 m2
    unfold lb_Chart_queue_2
    refine r_iload_n (pc := 2) hX 2 dX1_queue_2 rfl rfl ?_
    refine r_aload_n (pc := 3) hX 0 dX1_queue_3 rfl rfl ?_
    refine r_getI (pc := 4) hX dX1_queue_4 fp1_39 k10 (by decide) ?_
    refine r_icmp_ge (tgt := 53) (pc := 7) hX dX1_queue_7 (by decide) ?_ ?_
    · skip
      exact r_vret (pc := 53) hX hE dX1_queue_53
    · skip
      refine r_iload_n (pc := 10) hX 2 dX1_queue_10 rfl rfl ?_
      refine r_istore_n (L' := [(3, .int v1), (0, rX X 10), (1, rX X a0), (2, .int v1)]) (pc := 11) hX dX1_queue_11 rfl (by decide) rfl ?_
      refine r_join (P := fun k => ∀ (v3 : Int32) (m4 : Me), J X oV (k v3 m4) m4 43 [(0, rX X 10), (1, rX X a0), (2, .int v1), (3, .int v3)] []) ?_ ?_
      · intro v3 m4
        refine r_aload_n (pc := 43) hX 1 dX1_queue_43 rfl rfl ?_
        refine r_iload_n (pc := 44) hX 3 dX1_queue_44 rfl rfl ?_
        refine r_iload_n (pc := 45) hX 2 dX1_queue_45 rfl rfl ?_
        refine r_iast (pc := 46) hX dX1_queue_46 ha0 (fun m5 => ?_)
        refine r_iincN (L' := fun w => [(2, .int w), (0, rX X 10), (1, rX X a0), (3, .int v3)]) (pc := 47) hX 2 dX1_queue_47 rfl rfl (by decide) (fun _ => rfl) (fun v6 => ?_)
        refine r_goto (tgt := 2) (pc := 50) hX dX1_queue_50 (by decide) ?_
        exact r_sub [1, 2, 0] rfl (hs2 v6 m5)
      intro k43_ hk43_
      have hl12 : ∀ n : Nat, ∀ (v7 : Int32) (m8 : Me), J X oV (fx (lb_Chart_queue_12 a0 v1 k43_) (fun _ _ => none) n v7 m8) m8 12 [(0, rX X 10), (1, rX X a0), (2, .int v1), (3, .int v7)] [] := by
        refine fx_ind (fun (f : Int32 → Me → Option Me) => ∀ (v7 : Int32) (m8 : Me), J X oV (f v7 m8) m8 12 [(0, rX X 10), (1, rX X a0), (2, .int v1), (3, .int v7)] []) (fun _ _ => r_none) ?_
        intro s12 hs12 v7 m8
        unfold lb_Chart_queue_12
        refine r_iload_n (pc := 12) hX 3 dX1_queue_12 rfl rfl ?_
        refine r_if_le (tgt := 43) (pc := 13) hX dX1_queue_13 (by decide) ?_ ?_
        · skip
          exact hk43_ v7 m8
        · skip
          refine r_aload_n (pc := 16) hX 0 dX1_queue_16 rfl rfl ?_
          refine r_iload_n (pc := 17) hX 2 dX1_queue_17 rfl rfl ?_
          refine r_aload_n (pc := 18) hX 1 dX1_queue_18 rfl rfl ?_
          refine r_iload_n (pc := 19) hX 3 dX1_queue_19 rfl rfl ?_
          refine r_iconst (pc := 20) hX dX1_queue_20 ic_1 ?_
          refine r_isub (pc := 21) hX dX1_queue_21 ?_
          refine r_iald (pc := 22) hX dX1_queue_22 ha0 (fun v9 => ?_)
          refine r_cvP (st := []) (pc := 23) hX dX1_queue_23 MI_Chart_isServedAhead MV_Chart_isServedAhead lkX1_85 k10 (c_Chart_isServedAhead v1 v9 m8) rfl rfl (Nat.le_of_ble_eq_true rfl) (by decide) (fun v10 => ?_)
          refine r_if_eq (tgt := 43) (pc := 26) hX dX1_queue_26 (by decide) ?_ ?_
          · skip
            exact hk43_ v7 m8
          · skip
            refine r_aload_n (pc := 29) hX 1 dX1_queue_29 rfl rfl ?_
            refine r_iload_n (pc := 30) hX 3 dX1_queue_30 rfl rfl ?_
            refine r_aload_n (pc := 31) hX 1 dX1_queue_31 rfl rfl ?_
            refine r_iload_n (pc := 32) hX 3 dX1_queue_32 rfl rfl ?_
            refine r_iconst (pc := 33) hX dX1_queue_33 ic_1 ?_
            refine r_isub (pc := 34) hX dX1_queue_34 ?_
            refine r_iald (pc := 35) hX dX1_queue_35 ha0 (fun v11 => ?_)
            refine r_iast (pc := 36) hX dX1_queue_36 ha0 (fun m12 => ?_)
            refine r_iincN (L' := fun w => [(3, .int w), (0, rX X 10), (1, rX X a0), (2, .int v1)]) (pc := 37) hX 3 dX1_queue_37 rfl rfl (by decide) (fun _ => rfl) (fun v13 => ?_)
            refine r_goto (tgt := 12) (pc := 40) hX dX1_queue_40 (by decide) ?_
            exact r_sub [1, 2, 3, 0] rfl (hs12 v13 m12)
      exact r_sub [1, 2, 3, 0] rfl (hl12 FU v1 m2)
  exact r_sub [1, 2, 0] rfl (hl2 FU (0 : Int32) m)
def f_Hist_keep  (m : Me) : Option Me := rd (ln 2) (m.1 1 1) (fun j => 20 + 10 * j) (fun b1 => cP (f_Chart_copyFrom b1 10 m) (fun m2 => bd (si m2 1 1 (((((m2.1 1 1)) + (1 : Int32))) - ((((m2.1 1 1)) + (1 : Int32))) / (8 : Int32) * (8 : Int32))) (fun m3 => bd (si m3 1 2 (mn (((m3.1 1 2)) + (1 : Int32)) (8 : Int32))) (fun m4 => some m4))))
set_option maxHeartbeats 4000000 in
set_option maxRecDepth 100000 in
theorem c_Hist_keep   (m : Me) (r : Me) (h : f_Hist_keep  m = some r) : Ct yX2_keep cX2_keep 2 none 2 (fun ad => [.ref (ad 1), .ref (ad 10)]) m (fun ad => (none, r)) := by
  refine mk_ct (F := f_Hist_keep  m) (fun _ => oV) r h (fun _ => rfl) (by decide) (fun _ => Nat.le_of_ble_eq_true rfl) ?_
  intro X hX hE
  show J X oV (f_Hist_keep  m) m 0 [(0, rX X 1), (1, rX X 10)] []
  unfold f_Hist_keep
  refine r_aload_n (pc := 0) hX 0 dX2_keep_0 rfl rfl ?_
  refine r_getR (pc := 1) hX dX2_keep_1 fp2_11 k1 rfl g1_0 ?_
  refine r_aload_n (pc := 4) hX 0 dX2_keep_4 rfl rfl ?_
  refine r_getI (pc := 5) hX dX2_keep_5 fp2_18 k1 (by decide) ?_
  refine r_aldC (pc := 8) hX dX2_keep_8 (fun b1 hb1 => ?_)
  refine r_aload_n (pc := 9) hX 1 dX2_keep_9 rfl rfl ?_
  refine r_cvV (st := []) (pc := 10) hX dX2_keep_10 MI_Chart_copyFrom MV_Chart_copyFrom lkX2_22 hb1 (c_Chart_copyFrom b1 10 hb1 k10 m) rfl rfl (Nat.le_of_ble_eq_true rfl) (by decide) (fun m2 => ?_)
  refine r_aload_n (pc := 13) hX 0 dX2_keep_13 rfl rfl ?_
  refine r_aload_n (pc := 14) hX 0 dX2_keep_14 rfl rfl ?_
  refine r_getI (pc := 15) hX dX2_keep_15 fp2_18 k1 (by decide) ?_
  refine r_iconst (pc := 18) hX dX2_keep_18 ic_1 ?_
  refine r_iadd (pc := 19) hX dX2_keep_19 ?_
  refine r_bipush (pc := 20) hX dX2_keep_20 bp_8 ?_
  refine r_irem (pc := 22) hX dX2_keep_22 (by decide) ?_
  refine r_putI (pc := 23) hX dX2_keep_23 fp2_18 k1 (fun m3 => ?_)
  refine r_aload_n (pc := 26) hX 0 dX2_keep_26 rfl rfl ?_
  refine r_aload_n (pc := 27) hX 0 dX2_keep_27 rfl rfl ?_
  refine r_getI (pc := 28) hX dX2_keep_28 fp2_26 k1 (by decide) ?_
  refine r_iconst (pc := 31) hX dX2_keep_31 ic_1 ?_
  refine r_iadd (pc := 32) hX dX2_keep_32 ?_
  refine r_bipush (pc := 33) hX dX2_keep_33 bp_8 ?_
  refine r_mmin (st := [rX X 1]) (pc := 35) hX dX2_keep_35 lkM2_29 (Nat.le_of_ble_eq_true rfl) (by omega) ?_
  refine r_putI (pc := 38) hX dX2_keep_38 fp2_26 k1 (fun m4 => ?_)
  exact r_vret (pc := 41) hX hE dX2_keep_41
def f_Hist_takeBack  (m : Me) : Option Me := bd (si m 1 1 (((((((m.1 1 1)) + (8 : Int32))) - (1 : Int32))) - ((((((m.1 1 1)) + (8 : Int32))) - (1 : Int32))) / (8 : Int32) * (8 : Int32))) (fun m1 => rd (ln 2) (m1.1 1 1) (fun j => 20 + 10 * j) (fun b2 => cP (f_Chart_copyFrom 10 b2 m1) (fun m3 => bd (si m3 1 2 (((m3.1 1 2)) - (1 : Int32))) (fun m4 => some m4))))
set_option maxHeartbeats 4000000 in
set_option maxRecDepth 100000 in
theorem c_Hist_takeBack   (m : Me) (r : Me) (h : f_Hist_takeBack  m = some r) : Ct yX2_takeBack cX2_takeBack 2 none 2 (fun ad => [.ref (ad 1), .ref (ad 10)]) m (fun ad => (none, r)) := by
  refine mk_ct (F := f_Hist_takeBack  m) (fun _ => oV) r h (fun _ => rfl) (by decide) (fun _ => Nat.le_of_ble_eq_true rfl) ?_
  intro X hX hE
  show J X oV (f_Hist_takeBack  m) m 0 [(0, rX X 1), (1, rX X 10)] []
  unfold f_Hist_takeBack
  refine r_aload_n (pc := 0) hX 0 dX2_takeBack_0 rfl rfl ?_
  refine r_aload_n (pc := 1) hX 0 dX2_takeBack_1 rfl rfl ?_
  refine r_getI (pc := 2) hX dX2_takeBack_2 fp2_18 k1 (by decide) ?_
  refine r_bipush (pc := 5) hX dX2_takeBack_5 bp_8 ?_
  refine r_iadd (pc := 7) hX dX2_takeBack_7 ?_
  refine r_iconst (pc := 8) hX dX2_takeBack_8 ic_1 ?_
  refine r_isub (pc := 9) hX dX2_takeBack_9 ?_
  refine r_bipush (pc := 10) hX dX2_takeBack_10 bp_8 ?_
  refine r_irem (pc := 12) hX dX2_takeBack_12 (by decide) ?_
  refine r_putI (pc := 13) hX dX2_takeBack_13 fp2_18 k1 (fun m1 => ?_)
  refine r_aload_n (pc := 16) hX 1 dX2_takeBack_16 rfl rfl ?_
  refine r_aload_n (pc := 17) hX 0 dX2_takeBack_17 rfl rfl ?_
  refine r_getR (pc := 18) hX dX2_takeBack_18 fp2_11 k1 rfl g1_0 ?_
  refine r_aload_n (pc := 21) hX 0 dX2_takeBack_21 rfl rfl ?_
  refine r_getI (pc := 22) hX dX2_takeBack_22 fp2_18 k1 (by decide) ?_
  refine r_aldC (pc := 25) hX dX2_takeBack_25 (fun b2 hb2 => ?_)
  refine r_cvV (st := []) (pc := 26) hX dX2_takeBack_26 MI_Chart_copyFrom MV_Chart_copyFrom lkX2_22 k10 (c_Chart_copyFrom 10 b2 k10 hb2 m1) rfl rfl (Nat.le_of_ble_eq_true rfl) (by decide) (fun m3 => ?_)
  refine r_aload_n (pc := 29) hX 0 dX2_takeBack_29 rfl rfl ?_
  refine r_dup (pc := 30) hX dX2_takeBack_30 rfl ?_
  refine r_getI (pc := 31) hX dX2_takeBack_31 fp2_26 k1 (by decide) ?_
  refine r_iconst (pc := 34) hX dX2_takeBack_34 ic_1 ?_
  refine r_isub (pc := 35) hX dX2_takeBack_35 ?_
  refine r_putI (pc := 36) hX dX2_takeBack_36 fp2_26 k1 (fun m4 => ?_)
  exact r_vret (pc := 39) hX hE dX2_takeBack_39
