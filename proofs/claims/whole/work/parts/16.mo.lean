def f_Mo_in (a0 : Int32) (a1 : Int32) (a2 : Int32) (m : Me) : Option Int32 := if a0 < a1 then some (0 : Int32) else if a2 < a0 then some (0 : Int32) else some (1 : Int32)
set_option maxHeartbeats 4000000 in
set_option maxRecDepth 100000 in
theorem c_Mo_in (a0 : Int32) (a1 : Int32) (a2 : Int32)  (m : Me) (r : Int32) (h : f_Mo_in a0 a1 a2 m = some r) : Ct yX8_in cX8_in 3 (some .boolean) 0 (fun ad => [.int a0, .int a1, .int a2]) m (fun ad => (some (.int r), m)) := by
  refine mk_ct (F := f_Mo_in a0 a1 a2 m) (fun _ => oP m) r h (fun _ => rfl) (by decide) (fun _ => Nat.le_of_ble_eq_true rfl) ?_
  intro X hX hE
  show J X (oP m) (f_Mo_in a0 a1 a2 m) m 0 [(0, .int a0), (1, .int a1), (2, .int a2)] []
  unfold f_Mo_in
  refine r_iload_n (pc := 0) hX 0 dX8_in_0 rfl rfl ?_
  refine r_iload_n (pc := 1) hX 1 dX8_in_1 rfl rfl ?_
  refine r_icmp_lt (tgt := 14) (pc := 2) hX dX8_in_2 (by decide) ?_ ?_
  · skip
    refine r_iconst (pc := 14) hX dX8_in_14 ic_0 ?_
    exact r_zretPk (pc := 15) hX hE dX8_in_15 (by decide)
  · skip
    refine r_iload_n (pc := 5) hX 0 dX8_in_5 rfl rfl ?_
    refine r_iload_n (pc := 6) hX 2 dX8_in_6 rfl rfl ?_
    refine r_icmp_gt (tgt := 14) (pc := 7) hX dX8_in_7 (by decide) ?_ ?_
    · skip
      refine r_iconst (pc := 14) hX dX8_in_14 ic_0 ?_
      exact r_zretPk (pc := 15) hX hE dX8_in_15 (by decide)
    · skip
      refine r_iconst (pc := 10) hX dX8_in_10 ic_1 ?_
      refine r_goto (tgt := 15) (pc := 11) hX dX8_in_11 (by decide) ?_
      exact r_zretPk (pc := 15) hX hE dX8_in_15 (by decide)
def lb_Mo_write_2 (a0 : Nat) (a1 : Int32) (s2 : Int32 → Me → Option Me) (v1 : Int32) (m2 : Me) : Option Me := if a1 ≤ v1 then some m2 else rd (ln a0) v1 (m2.1 a0) (fun v3 => wi m2 210 (ln 210) (m2.1 200 15) v3 (fun m4 => bd (si m4 200 15 (((m4.1 200 15)) + (1 : Int32))) (fun m5 => bd (v1 + 1) (fun v6 => (s2 v6 m5)))))
def f_Mo_write (a0 : Nat) (a1 : Int32) (m : Me) : Option Me := ((fx (lb_Mo_write_2 a0 a1) (fun _ _ => none) FU) (0 : Int32) m)
set_option maxHeartbeats 4000000 in
set_option maxRecDepth 100000 in
theorem c_Mo_write (a0 : Nat) (a1 : Int32) (ha0 : kd a0 = 20) (m : Me) (r : Me) (h : f_Mo_write a0 a1 m = some r) : Ct yX8_write cX8_write 4 none 0 (fun ad => [.ref (ad 200), .ref (ad a0), .int a1]) m (fun ad => (none, r)) := by
  refine mk_ct (F := f_Mo_write a0 a1 m) (fun _ => oV) r h (fun _ => rfl) (by decide) (fun _ => Nat.le_of_ble_eq_true rfl) ?_
  intro X hX hE
  show J X oV (f_Mo_write a0 a1 m) m 0 [(0, rX X 200), (1, rX X a0), (2, .int a1)] []
  unfold f_Mo_write
  refine r_iconst (pc := 0) hX dX8_write_0 ic_0 ?_
  refine r_istore_n (L' := [(3, .int (0 : Int32)), (0, rX X 200), (1, rX X a0), (2, .int a1)]) (pc := 1) hX dX8_write_1 rfl (by decide) rfl ?_
  have hl2 : ∀ n : Nat, ∀ (v1 : Int32) (m2 : Me), J X oV (fx (lb_Mo_write_2 a0 a1) (fun _ _ => none) n v1 m2) m2 2 [(0, rX X 200), (1, rX X a0), (2, .int a1), (3, .int v1)] [] := by
    refine fx_ind (fun (f : Int32 → Me → Option Me) => ∀ (v1 : Int32) (m2 : Me), J X oV (f v1 m2) m2 2 [(0, rX X 200), (1, rX X a0), (2, .int a1), (3, .int v1)] []) (fun _ _ => r_none) ?_
    intro s2 hs2 v1 m2
    unfold lb_Mo_write_2
    refine r_iload_n (pc := 2) hX 3 dX8_write_2 rfl rfl ?_
    refine r_iload_n (pc := 3) hX 2 dX8_write_3 rfl rfl ?_
    refine r_icmp_ge (tgt := 35) (pc := 4) hX dX8_write_4 (by decide) ?_ ?_
    · skip
      exact r_vret (pc := 35) hX hE dX8_write_35
    · skip
      refine r_aload_n (pc := 7) hX 0 dX8_write_7 rfl rfl ?_
      refine r_getR (pc := 8) hX dX8_write_8 fp8_37 k200 rfl g200_12 ?_
      refine r_aload_n (pc := 11) hX 0 dX8_write_11 rfl rfl ?_
      refine r_getI (pc := 12) hX dX8_write_12 fp8_82 k200 (by decide) ?_
      refine r_aload_n (pc := 15) hX 1 dX8_write_15 rfl rfl ?_
      refine r_iload_n (pc := 16) hX 3 dX8_write_16 rfl rfl ?_
      refine r_iald (pc := 17) hX dX8_write_17 ha0 (fun v3 => ?_)
      refine r_iast (pc := 18) hX dX8_write_18 k210 (fun m4 => ?_)
      refine r_aload_n (pc := 19) hX 0 dX8_write_19 rfl rfl ?_
      refine r_dup (pc := 20) hX dX8_write_20 rfl ?_
      refine r_getI (pc := 21) hX dX8_write_21 fp8_82 k200 (by decide) ?_
      refine r_iconst (pc := 24) hX dX8_write_24 ic_1 ?_
      refine r_iadd (pc := 25) hX dX8_write_25 ?_
      refine r_putI (pc := 26) hX dX8_write_26 fp8_82 k200 (fun m5 => ?_)
      refine r_iincN (L' := fun w => [(3, .int w), (0, rX X 200), (1, rX X a0), (2, .int a1)]) (pc := 29) hX 3 dX8_write_29 rfl rfl (by decide) (fun _ => rfl) (fun v6 => ?_)
      refine r_goto (tgt := 2) (pc := 32) hX dX8_write_32 (by decide) ?_
      exact r_sub [1, 2, 3, 0] rfl (hs2 v6 m5)
  exact r_sub [1, 2, 3, 0] rfl (hl2 FU (0 : Int32) m)
def lb_Mo_read_2 (a0 : Nat) (a1 : Int32) (s2 : Int32 → Me → Option Me) (v1 : Int32) (m2 : Me) : Option Me := if a1 ≤ v1 then some m2 else rd (ln 210) (m2.1 200 15) (m2.1 210) (fun v3 => wi m2 a0 (ln a0) v1 v3 (fun m4 => bd (si m4 200 15 (((m4.1 200 15)) + (1 : Int32))) (fun m5 => bd (v1 + 1) (fun v6 => (s2 v6 m5)))))
def f_Mo_read (a0 : Nat) (a1 : Int32) (m : Me) : Option Me := ((fx (lb_Mo_read_2 a0 a1) (fun _ _ => none) FU) (0 : Int32) m)
set_option maxHeartbeats 4000000 in
set_option maxRecDepth 100000 in
theorem c_Mo_read (a0 : Nat) (a1 : Int32) (ha0 : kd a0 = 20) (m : Me) (r : Me) (h : f_Mo_read a0 a1 m = some r) : Ct yX8_read cX8_read 4 none 0 (fun ad => [.ref (ad 200), .ref (ad a0), .int a1]) m (fun ad => (none, r)) := by
  refine mk_ct (F := f_Mo_read a0 a1 m) (fun _ => oV) r h (fun _ => rfl) (by decide) (fun _ => Nat.le_of_ble_eq_true rfl) ?_
  intro X hX hE
  show J X oV (f_Mo_read a0 a1 m) m 0 [(0, rX X 200), (1, rX X a0), (2, .int a1)] []
  unfold f_Mo_read
  refine r_iconst (pc := 0) hX dX8_read_0 ic_0 ?_
  refine r_istore_n (L' := [(3, .int (0 : Int32)), (0, rX X 200), (1, rX X a0), (2, .int a1)]) (pc := 1) hX dX8_read_1 rfl (by decide) rfl ?_
  have hl2 : ∀ n : Nat, ∀ (v1 : Int32) (m2 : Me), J X oV (fx (lb_Mo_read_2 a0 a1) (fun _ _ => none) n v1 m2) m2 2 [(0, rX X 200), (1, rX X a0), (2, .int a1), (3, .int v1)] [] := by
    refine fx_ind (fun (f : Int32 → Me → Option Me) => ∀ (v1 : Int32) (m2 : Me), J X oV (f v1 m2) m2 2 [(0, rX X 200), (1, rX X a0), (2, .int a1), (3, .int v1)] []) (fun _ _ => r_none) ?_
    intro s2 hs2 v1 m2
    unfold lb_Mo_read_2
    refine r_iload_n (pc := 2) hX 3 dX8_read_2 rfl rfl ?_
    refine r_iload_n (pc := 3) hX 2 dX8_read_3 rfl rfl ?_
    refine r_icmp_ge (tgt := 35) (pc := 4) hX dX8_read_4 (by decide) ?_ ?_
    · skip
      exact r_vret (pc := 35) hX hE dX8_read_35
    · skip
      refine r_aload_n (pc := 7) hX 1 dX8_read_7 rfl rfl ?_
      refine r_iload_n (pc := 8) hX 3 dX8_read_8 rfl rfl ?_
      refine r_aload_n (pc := 9) hX 0 dX8_read_9 rfl rfl ?_
      refine r_getR (pc := 10) hX dX8_read_10 fp8_37 k200 rfl g200_12 ?_
      refine r_aload_n (pc := 13) hX 0 dX8_read_13 rfl rfl ?_
      refine r_getI (pc := 14) hX dX8_read_14 fp8_82 k200 (by decide) ?_
      refine r_iald (pc := 17) hX dX8_read_17 k210 (fun v3 => ?_)
      refine r_iast (pc := 18) hX dX8_read_18 ha0 (fun m4 => ?_)
      refine r_aload_n (pc := 19) hX 0 dX8_read_19 rfl rfl ?_
      refine r_dup (pc := 20) hX dX8_read_20 rfl ?_
      refine r_getI (pc := 21) hX dX8_read_21 fp8_82 k200 (by decide) ?_
      refine r_iconst (pc := 24) hX dX8_read_24 ic_1 ?_
      refine r_iadd (pc := 25) hX dX8_read_25 ?_
      refine r_putI (pc := 26) hX dX8_read_26 fp8_82 k200 (fun m5 => ?_)
      refine r_iincN (L' := fun w => [(3, .int w), (0, rX X 200), (1, rX X a0), (2, .int a1)]) (pc := 29) hX 3 dX8_read_29 rfl rfl (by decide) (fun _ => rfl) (fun v6 => ?_)
      refine r_goto (tgt := 2) (pc := 32) hX dX8_read_32 (by decide) ?_
      exact r_sub [1, 2, 3, 0] rfl (hs2 v6 m5)
  exact r_sub [1, 2, 3, 0] rfl (hl2 FU (0 : Int32) m)
def f_Mo_keep  (m : Me) : Option Me := bd (si m 200 15 ((210 : Int32) * ((m.1 200 13)))) (fun m1 => wi m1 210 (ln 210) (m1.1 200 15) (m1.1 200 1) (fun m2 => wi m2 210 (ln 210) (((m2.1 200 15)) + (1 : Int32)) (m2.1 200 2) (fun m3 => bd (si m3 200 15 (((m3.1 200 15)) + (2 : Int32))) (fun m4 => cP (f_Mo_write 201 (24 : Int32) m4) (fun m5 => cP (f_Mo_write 202 (24 : Int32) m5) (fun m6 => cP (f_Mo_write 203 (24 : Int32) m6) (fun m7 => cP (f_Mo_write 204 (24 : Int32) m7) (fun m8 => cP (f_Mo_write 205 (24 : Int32) m8) (fun m9 => cP (f_Mo_write 206 (24 : Int32) m9) (fun m10 => cP (f_Mo_write 207 (24 : Int32) m10) (fun m11 => cP (f_Mo_write 208 (20 : Int32) m11) (fun m12 => cP (f_Mo_write 209 (20 : Int32) m12) (fun m13 => bd (si m13 200 13 (((((m13.1 200 13)) + (1 : Int32))) - ((((m13.1 200 13)) + (1 : Int32))) / (8 : Int32) * (8 : Int32))) (fun m14 => if (8 : Int32) ≤ (m14.1 200 14) then bd (si m14 200 14 (8 : Int32)) (fun m15 => some m15) else bd (si m14 200 14 (((m14.1 200 14)) + (1 : Int32))) (fun m16 => some m16)))))))))))))))
set_option maxHeartbeats 4000000 in
set_option maxRecDepth 100000 in
theorem c_Mo_keep   (m : Me) (r : Me) (h : f_Mo_keep  m = some r) : Ct yX8_keep cX8_keep 1 none 1 (fun ad => [.ref (ad 200)]) m (fun ad => (none, r)) := by
  refine mk_ct (F := f_Mo_keep  m) (fun _ => oV) r h (fun _ => rfl) (by decide) (fun _ => Nat.le_of_ble_eq_true rfl) ?_
  intro X hX hE
  show J X oV (f_Mo_keep  m) m 0 [(0, rX X 200)] []
  unfold f_Mo_keep
  refine r_aload_n (pc := 0) hX 0 dX8_keep_0 rfl rfl ?_
  refine r_sipush (pc := 1) hX dX8_keep_1 sp_210 ?_
  refine r_aload_n (pc := 4) hX 0 dX8_keep_4 rfl rfl ?_
  refine r_getI (pc := 5) hX dX8_keep_5 fp8_85 k200 (by decide) ?_
  refine r_imul (pc := 8) hX dX8_keep_8 ?_
  refine r_putI (pc := 9) hX dX8_keep_9 fp8_82 k200 (fun m1 => ?_)
  refine r_aload_n (pc := 12) hX 0 dX8_keep_12 rfl rfl ?_
  refine r_getR (pc := 13) hX dX8_keep_13 fp8_37 k200 rfl g200_12 ?_
  refine r_aload_n (pc := 16) hX 0 dX8_keep_16 rfl rfl ?_
  refine r_getI (pc := 17) hX dX8_keep_17 fp8_82 k200 (by decide) ?_
  refine r_aload_n (pc := 20) hX 0 dX8_keep_20 rfl rfl ?_
  refine r_getI (pc := 21) hX dX8_keep_21 fp8_88 k200 (by decide) ?_
  refine r_iast (pc := 24) hX dX8_keep_24 k210 (fun m2 => ?_)
  refine r_aload_n (pc := 25) hX 0 dX8_keep_25 rfl rfl ?_
  refine r_getR (pc := 26) hX dX8_keep_26 fp8_37 k200 rfl g200_12 ?_
  refine r_aload_n (pc := 29) hX 0 dX8_keep_29 rfl rfl ?_
  refine r_getI (pc := 30) hX dX8_keep_30 fp8_82 k200 (by decide) ?_
  refine r_iconst (pc := 33) hX dX8_keep_33 ic_1 ?_
  refine r_iadd (pc := 34) hX dX8_keep_34 ?_
  refine r_aload_n (pc := 35) hX 0 dX8_keep_35 rfl rfl ?_
  refine r_getI (pc := 36) hX dX8_keep_36 fp8_91 k200 (by decide) ?_
  refine r_iast (pc := 39) hX dX8_keep_39 k210 (fun m3 => ?_)
  refine r_aload_n (pc := 40) hX 0 dX8_keep_40 rfl rfl ?_
  refine r_dup (pc := 41) hX dX8_keep_41 rfl ?_
  refine r_getI (pc := 42) hX dX8_keep_42 fp8_82 k200 (by decide) ?_
  refine r_iconst (pc := 45) hX dX8_keep_45 ic_2 ?_
  refine r_iadd (pc := 46) hX dX8_keep_46 ?_
  refine r_putI (pc := 47) hX dX8_keep_47 fp8_82 k200 (fun m4 => ?_)
  refine r_aload_n (pc := 50) hX 0 dX8_keep_50 rfl rfl ?_
  refine r_aload_n (pc := 51) hX 0 dX8_keep_51 rfl rfl ?_
  refine r_getR (pc := 52) hX dX8_keep_52 fp8_7 k200 rfl g200_3 ?_
  refine r_bipush (pc := 55) hX dX8_keep_55 bp_24 ?_
  refine r_cvV (st := []) (pc := 57) hX dX8_keep_57 MI_Mo_write MV_Mo_write lkX8_94 k200 (c_Mo_write 201 (24 : Int32) k201 m4) rfl rfl (Nat.le_of_ble_eq_true rfl) (by decide) (fun m5 => ?_)
  refine r_aload_n (pc := 60) hX 0 dX8_keep_60 rfl rfl ?_
  refine r_aload_n (pc := 61) hX 0 dX8_keep_61 rfl rfl ?_
  refine r_getR (pc := 62) hX dX8_keep_62 fp8_13 k200 rfl g200_4 ?_
  refine r_bipush (pc := 65) hX dX8_keep_65 bp_24 ?_
  refine r_cvV (st := []) (pc := 67) hX dX8_keep_67 MI_Mo_write MV_Mo_write lkX8_94 k200 (c_Mo_write 202 (24 : Int32) k202 m5) rfl rfl (Nat.le_of_ble_eq_true rfl) (by decide) (fun m6 => ?_)
  refine r_aload_n (pc := 70) hX 0 dX8_keep_70 rfl rfl ?_
  refine r_aload_n (pc := 71) hX 0 dX8_keep_71 rfl rfl ?_
  refine r_getR (pc := 72) hX dX8_keep_72 fp8_16 k200 rfl g200_5 ?_
  refine r_bipush (pc := 75) hX dX8_keep_75 bp_24 ?_
  refine r_cvV (st := []) (pc := 77) hX dX8_keep_77 MI_Mo_write MV_Mo_write lkX8_94 k200 (c_Mo_write 203 (24 : Int32) k203 m6) rfl rfl (Nat.le_of_ble_eq_true rfl) (by decide) (fun m7 => ?_)
  refine r_aload_n (pc := 80) hX 0 dX8_keep_80 rfl rfl ?_
  refine r_aload_n (pc := 81) hX 0 dX8_keep_81 rfl rfl ?_
  refine r_getR (pc := 82) hX dX8_keep_82 fp8_19 k200 rfl g200_6 ?_
  refine r_bipush (pc := 85) hX dX8_keep_85 bp_24 ?_
  refine r_cvV (st := []) (pc := 87) hX dX8_keep_87 MI_Mo_write MV_Mo_write lkX8_94 k200 (c_Mo_write 204 (24 : Int32) k204 m7) rfl rfl (Nat.le_of_ble_eq_true rfl) (by decide) (fun m8 => ?_)
  refine r_aload_n (pc := 90) hX 0 dX8_keep_90 rfl rfl ?_
  refine r_aload_n (pc := 91) hX 0 dX8_keep_91 rfl rfl ?_
  refine r_getR (pc := 92) hX dX8_keep_92 fp8_22 k200 rfl g200_7 ?_
  refine r_bipush (pc := 95) hX dX8_keep_95 bp_24 ?_
  refine r_cvV (st := []) (pc := 97) hX dX8_keep_97 MI_Mo_write MV_Mo_write lkX8_94 k200 (c_Mo_write 205 (24 : Int32) k205 m8) rfl rfl (Nat.le_of_ble_eq_true rfl) (by decide) (fun m9 => ?_)
  refine r_aload_n (pc := 100) hX 0 dX8_keep_100 rfl rfl ?_
  refine r_aload_n (pc := 101) hX 0 dX8_keep_101 rfl rfl ?_
  refine r_getR (pc := 102) hX dX8_keep_102 fp8_25 k200 rfl g200_8 ?_
  refine r_bipush (pc := 105) hX dX8_keep_105 bp_24 ?_
  refine r_cvV (st := []) (pc := 107) hX dX8_keep_107 MI_Mo_write MV_Mo_write lkX8_94 k200 (c_Mo_write 206 (24 : Int32) k206 m9) rfl rfl (Nat.le_of_ble_eq_true rfl) (by decide) (fun m10 => ?_)
  refine r_aload_n (pc := 110) hX 0 dX8_keep_110 rfl rfl ?_
  refine r_aload_n (pc := 111) hX 0 dX8_keep_111 rfl rfl ?_
  refine r_getR (pc := 112) hX dX8_keep_112 fp8_28 k200 rfl g200_9 ?_
  refine r_bipush (pc := 115) hX dX8_keep_115 bp_24 ?_
  refine r_cvV (st := []) (pc := 117) hX dX8_keep_117 MI_Mo_write MV_Mo_write lkX8_94 k200 (c_Mo_write 207 (24 : Int32) k207 m10) rfl rfl (Nat.le_of_ble_eq_true rfl) (by decide) (fun m11 => ?_)
  refine r_aload_n (pc := 120) hX 0 dX8_keep_120 rfl rfl ?_
  refine r_aload_n (pc := 121) hX 0 dX8_keep_121 rfl rfl ?_
  refine r_getR (pc := 122) hX dX8_keep_122 fp8_31 k200 rfl g200_10 ?_
  refine r_bipush (pc := 125) hX dX8_keep_125 bp_20 ?_
  refine r_cvV (st := []) (pc := 127) hX dX8_keep_127 MI_Mo_write MV_Mo_write lkX8_94 k200 (c_Mo_write 208 (20 : Int32) k208 m11) rfl rfl (Nat.le_of_ble_eq_true rfl) (by decide) (fun m12 => ?_)
  refine r_aload_n (pc := 130) hX 0 dX8_keep_130 rfl rfl ?_
  refine r_aload_n (pc := 131) hX 0 dX8_keep_131 rfl rfl ?_
  refine r_getR (pc := 132) hX dX8_keep_132 fp8_34 k200 rfl g200_11 ?_
  refine r_bipush (pc := 135) hX dX8_keep_135 bp_20 ?_
  refine r_cvV (st := []) (pc := 137) hX dX8_keep_137 MI_Mo_write MV_Mo_write lkX8_94 k200 (c_Mo_write 209 (20 : Int32) k209 m12) rfl rfl (Nat.le_of_ble_eq_true rfl) (by decide) (fun m13 => ?_)
  refine r_aload_n (pc := 140) hX 0 dX8_keep_140 rfl rfl ?_
  refine r_aload_n (pc := 141) hX 0 dX8_keep_141 rfl rfl ?_
  refine r_getI (pc := 142) hX dX8_keep_142 fp8_85 k200 (by decide) ?_
  refine r_iconst (pc := 145) hX dX8_keep_145 ic_1 ?_
  refine r_iadd (pc := 146) hX dX8_keep_146 ?_
  refine r_bipush (pc := 147) hX dX8_keep_147 bp_8 ?_
  refine r_irem (pc := 149) hX dX8_keep_149 (by decide) ?_
  refine r_putI (pc := 150) hX dX8_keep_150 fp8_85 k200 (fun m14 => ?_)
  refine r_aload_n (pc := 153) hX 0 dX8_keep_153 rfl rfl ?_
  refine r_aload_n (pc := 154) hX 0 dX8_keep_154 rfl rfl ?_
  refine r_getI (pc := 155) hX dX8_keep_155 fp8_98 k200 (by decide) ?_
  refine r_bipush (pc := 158) hX dX8_keep_158 bp_8 ?_
  refine r_icmp_ge (tgt := 172) (pc := 160) hX dX8_keep_160 (by decide) ?_ ?_
  · skip
    refine r_bipush (pc := 172) hX dX8_keep_172 bp_8 ?_
    refine r_putI (pc := 174) hX dX8_keep_174 fp8_98 k200 (fun m15 => ?_)
    exact r_vret (pc := 177) hX hE dX8_keep_177
  · skip
    refine r_aload_n (pc := 163) hX 0 dX8_keep_163 rfl rfl ?_
    refine r_getI (pc := 164) hX dX8_keep_164 fp8_98 k200 (by decide) ?_
    refine r_iconst (pc := 167) hX dX8_keep_167 ic_1 ?_
    refine r_iadd (pc := 168) hX dX8_keep_168 ?_
    refine r_goto (tgt := 174) (pc := 169) hX dX8_keep_169 (by decide) ?_
    refine r_putI (pc := 174) hX dX8_keep_174 fp8_98 k200 (fun m16 => ?_)
    exact r_vret (pc := 177) hX hE dX8_keep_177
def f_Mo_undo  (m : Me) : Option (Int32 × Me) := bd (si m 200 0 (0 : Int32)) (fun m1 => if (m1.1 200 14) = 0 then some ((-4 : Int32), m1) else bd (si m1 200 13 (((((((m1.1 200 13)) + (8 : Int32))) - (1 : Int32))) - ((((((m1.1 200 13)) + (8 : Int32))) - (1 : Int32))) / (8 : Int32) * (8 : Int32))) (fun m2 => bd (si m2 200 14 (((m2.1 200 14)) - (1 : Int32))) (fun m3 => bd (si m3 200 15 ((210 : Int32) * ((m3.1 200 13)))) (fun m4 => rd (ln 210) (m4.1 200 15) (m4.1 210) (fun v5 => bd (si m4 200 1 v5) (fun m6 => rd (ln 210) (((m6.1 200 15)) + (1 : Int32)) (m6.1 210) (fun v7 => bd (si m6 200 2 v7) (fun m8 => bd (si m8 200 15 (((m8.1 200 15)) + (2 : Int32))) (fun m9 => cP (f_Mo_read 201 (24 : Int32) m9) (fun m10 => cP (f_Mo_read 202 (24 : Int32) m10) (fun m11 => cP (f_Mo_read 203 (24 : Int32) m11) (fun m12 => cP (f_Mo_read 204 (24 : Int32) m12) (fun m13 => cP (f_Mo_read 205 (24 : Int32) m13) (fun m14 => cP (f_Mo_read 206 (24 : Int32) m14) (fun m15 => cP (f_Mo_read 207 (24 : Int32) m15) (fun m16 => cP (f_Mo_read 208 (20 : Int32) m16) (fun m17 => cP (f_Mo_read 209 (20 : Int32) m17) (fun m18 => some ((m18.1 200 14), m18)))))))))))))))))))
set_option maxHeartbeats 4000000 in
set_option maxRecDepth 100000 in
theorem c_Mo_undo   (m : Me) (r : Int32) (m' : Me) (h : f_Mo_undo  m = some (r, m')) : Ct yX8_undo cX8_undo 1 (some .int) 1 (fun ad => [.ref (ad 200)]) m (fun ad => (some (.int r), m')) := by
  refine mk_ct (F := f_Mo_undo  m) (fun _ => oI) (r, m') h (fun _ => rfl) (by decide) (fun _ => Nat.le_of_ble_eq_true rfl) ?_
  intro X hX hE
  show J X oI (f_Mo_undo  m) m 0 [(0, rX X 200)] []
  unfold f_Mo_undo
  refine r_aload_n (pc := 0) hX 0 dX8_undo_0 rfl rfl ?_
  refine r_iconst (pc := 1) hX dX8_undo_1 ic_0 ?_
  refine r_putI (pc := 2) hX dX8_undo_2 fp8_78 k200 (fun m1 => ?_)
  refine r_aload_n (pc := 5) hX 0 dX8_undo_5 rfl rfl ?_
  refine r_getI (pc := 6) hX dX8_undo_6 fp8_98 k200 (by decide) ?_
  refine r_if_ne (tgt := 15) (pc := 9) hX dX8_undo_9 (by decide) ?_ ?_
  · skip
    refine r_aload_n (pc := 15) hX 0 dX8_undo_15 rfl rfl ?_
    refine r_aload_n (pc := 16) hX 0 dX8_undo_16 rfl rfl ?_
    refine r_getI (pc := 17) hX dX8_undo_17 fp8_85 k200 (by decide) ?_
    refine r_bipush (pc := 20) hX dX8_undo_20 bp_8 ?_
    refine r_iadd (pc := 22) hX dX8_undo_22 ?_
    refine r_iconst (pc := 23) hX dX8_undo_23 ic_1 ?_
    refine r_isub (pc := 24) hX dX8_undo_24 ?_
    refine r_bipush (pc := 25) hX dX8_undo_25 bp_8 ?_
    refine r_irem (pc := 27) hX dX8_undo_27 (by decide) ?_
    refine r_putI (pc := 28) hX dX8_undo_28 fp8_85 k200 (fun m2 => ?_)
    refine r_aload_n (pc := 31) hX 0 dX8_undo_31 rfl rfl ?_
    refine r_dup (pc := 32) hX dX8_undo_32 rfl ?_
    refine r_getI (pc := 33) hX dX8_undo_33 fp8_98 k200 (by decide) ?_
    refine r_iconst (pc := 36) hX dX8_undo_36 ic_1 ?_
    refine r_isub (pc := 37) hX dX8_undo_37 ?_
    refine r_putI (pc := 38) hX dX8_undo_38 fp8_98 k200 (fun m3 => ?_)
    refine r_aload_n (pc := 41) hX 0 dX8_undo_41 rfl rfl ?_
    refine r_sipush (pc := 42) hX dX8_undo_42 sp_210 ?_
    refine r_aload_n (pc := 45) hX 0 dX8_undo_45 rfl rfl ?_
    refine r_getI (pc := 46) hX dX8_undo_46 fp8_85 k200 (by decide) ?_
    refine r_imul (pc := 49) hX dX8_undo_49 ?_
    refine r_putI (pc := 50) hX dX8_undo_50 fp8_82 k200 (fun m4 => ?_)
    refine r_aload_n (pc := 53) hX 0 dX8_undo_53 rfl rfl ?_
    refine r_aload_n (pc := 54) hX 0 dX8_undo_54 rfl rfl ?_
    refine r_getR (pc := 55) hX dX8_undo_55 fp8_37 k200 rfl g200_12 ?_
    refine r_aload_n (pc := 58) hX 0 dX8_undo_58 rfl rfl ?_
    refine r_getI (pc := 59) hX dX8_undo_59 fp8_82 k200 (by decide) ?_
    refine r_iald (pc := 62) hX dX8_undo_62 k210 (fun v5 => ?_)
    refine r_putI (pc := 63) hX dX8_undo_63 fp8_88 k200 (fun m6 => ?_)
    refine r_aload_n (pc := 66) hX 0 dX8_undo_66 rfl rfl ?_
    refine r_aload_n (pc := 67) hX 0 dX8_undo_67 rfl rfl ?_
    refine r_getR (pc := 68) hX dX8_undo_68 fp8_37 k200 rfl g200_12 ?_
    refine r_aload_n (pc := 71) hX 0 dX8_undo_71 rfl rfl ?_
    refine r_getI (pc := 72) hX dX8_undo_72 fp8_82 k200 (by decide) ?_
    refine r_iconst (pc := 75) hX dX8_undo_75 ic_1 ?_
    refine r_iadd (pc := 76) hX dX8_undo_76 ?_
    refine r_iald (pc := 77) hX dX8_undo_77 k210 (fun v7 => ?_)
    refine r_putI (pc := 78) hX dX8_undo_78 fp8_91 k200 (fun m8 => ?_)
    refine r_aload_n (pc := 81) hX 0 dX8_undo_81 rfl rfl ?_
    refine r_dup (pc := 82) hX dX8_undo_82 rfl ?_
    refine r_getI (pc := 83) hX dX8_undo_83 fp8_82 k200 (by decide) ?_
    refine r_iconst (pc := 86) hX dX8_undo_86 ic_2 ?_
    refine r_iadd (pc := 87) hX dX8_undo_87 ?_
    refine r_putI (pc := 88) hX dX8_undo_88 fp8_82 k200 (fun m9 => ?_)
    refine r_aload_n (pc := 91) hX 0 dX8_undo_91 rfl rfl ?_
    refine r_aload_n (pc := 92) hX 0 dX8_undo_92 rfl rfl ?_
    refine r_getR (pc := 93) hX dX8_undo_93 fp8_7 k200 rfl g200_3 ?_
    refine r_bipush (pc := 96) hX dX8_undo_96 bp_24 ?_
    refine r_cvV (st := []) (pc := 98) hX dX8_undo_98 MI_Mo_read MV_Mo_read lkX8_101 k200 (c_Mo_read 201 (24 : Int32) k201 m9) rfl rfl (Nat.le_of_ble_eq_true rfl) (by decide) (fun m10 => ?_)
    refine r_aload_n (pc := 101) hX 0 dX8_undo_101 rfl rfl ?_
    refine r_aload_n (pc := 102) hX 0 dX8_undo_102 rfl rfl ?_
    refine r_getR (pc := 103) hX dX8_undo_103 fp8_13 k200 rfl g200_4 ?_
    refine r_bipush (pc := 106) hX dX8_undo_106 bp_24 ?_
    refine r_cvV (st := []) (pc := 108) hX dX8_undo_108 MI_Mo_read MV_Mo_read lkX8_101 k200 (c_Mo_read 202 (24 : Int32) k202 m10) rfl rfl (Nat.le_of_ble_eq_true rfl) (by decide) (fun m11 => ?_)
    refine r_aload_n (pc := 111) hX 0 dX8_undo_111 rfl rfl ?_
    refine r_aload_n (pc := 112) hX 0 dX8_undo_112 rfl rfl ?_
    refine r_getR (pc := 113) hX dX8_undo_113 fp8_16 k200 rfl g200_5 ?_
    refine r_bipush (pc := 116) hX dX8_undo_116 bp_24 ?_
    refine r_cvV (st := []) (pc := 118) hX dX8_undo_118 MI_Mo_read MV_Mo_read lkX8_101 k200 (c_Mo_read 203 (24 : Int32) k203 m11) rfl rfl (Nat.le_of_ble_eq_true rfl) (by decide) (fun m12 => ?_)
    refine r_aload_n (pc := 121) hX 0 dX8_undo_121 rfl rfl ?_
    refine r_aload_n (pc := 122) hX 0 dX8_undo_122 rfl rfl ?_
    refine r_getR (pc := 123) hX dX8_undo_123 fp8_19 k200 rfl g200_6 ?_
    refine r_bipush (pc := 126) hX dX8_undo_126 bp_24 ?_
    refine r_cvV (st := []) (pc := 128) hX dX8_undo_128 MI_Mo_read MV_Mo_read lkX8_101 k200 (c_Mo_read 204 (24 : Int32) k204 m12) rfl rfl (Nat.le_of_ble_eq_true rfl) (by decide) (fun m13 => ?_)
    refine r_aload_n (pc := 131) hX 0 dX8_undo_131 rfl rfl ?_
    refine r_aload_n (pc := 132) hX 0 dX8_undo_132 rfl rfl ?_
    refine r_getR (pc := 133) hX dX8_undo_133 fp8_22 k200 rfl g200_7 ?_
    refine r_bipush (pc := 136) hX dX8_undo_136 bp_24 ?_
    refine r_cvV (st := []) (pc := 138) hX dX8_undo_138 MI_Mo_read MV_Mo_read lkX8_101 k200 (c_Mo_read 205 (24 : Int32) k205 m13) rfl rfl (Nat.le_of_ble_eq_true rfl) (by decide) (fun m14 => ?_)
    refine r_aload_n (pc := 141) hX 0 dX8_undo_141 rfl rfl ?_
    refine r_aload_n (pc := 142) hX 0 dX8_undo_142 rfl rfl ?_
    refine r_getR (pc := 143) hX dX8_undo_143 fp8_25 k200 rfl g200_8 ?_
    refine r_bipush (pc := 146) hX dX8_undo_146 bp_24 ?_
    refine r_cvV (st := []) (pc := 148) hX dX8_undo_148 MI_Mo_read MV_Mo_read lkX8_101 k200 (c_Mo_read 206 (24 : Int32) k206 m14) rfl rfl (Nat.le_of_ble_eq_true rfl) (by decide) (fun m15 => ?_)
    refine r_aload_n (pc := 151) hX 0 dX8_undo_151 rfl rfl ?_
    refine r_aload_n (pc := 152) hX 0 dX8_undo_152 rfl rfl ?_
    refine r_getR (pc := 153) hX dX8_undo_153 fp8_28 k200 rfl g200_9 ?_
    refine r_bipush (pc := 156) hX dX8_undo_156 bp_24 ?_
    refine r_cvV (st := []) (pc := 158) hX dX8_undo_158 MI_Mo_read MV_Mo_read lkX8_101 k200 (c_Mo_read 207 (24 : Int32) k207 m15) rfl rfl (Nat.le_of_ble_eq_true rfl) (by decide) (fun m16 => ?_)
    refine r_aload_n (pc := 161) hX 0 dX8_undo_161 rfl rfl ?_
    refine r_aload_n (pc := 162) hX 0 dX8_undo_162 rfl rfl ?_
    refine r_getR (pc := 163) hX dX8_undo_163 fp8_31 k200 rfl g200_10 ?_
    refine r_bipush (pc := 166) hX dX8_undo_166 bp_20 ?_
    refine r_cvV (st := []) (pc := 168) hX dX8_undo_168 MI_Mo_read MV_Mo_read lkX8_101 k200 (c_Mo_read 208 (20 : Int32) k208 m16) rfl rfl (Nat.le_of_ble_eq_true rfl) (by decide) (fun m17 => ?_)
    refine r_aload_n (pc := 171) hX 0 dX8_undo_171 rfl rfl ?_
    refine r_aload_n (pc := 172) hX 0 dX8_undo_172 rfl rfl ?_
    refine r_getR (pc := 173) hX dX8_undo_173 fp8_34 k200 rfl g200_11 ?_
    refine r_bipush (pc := 176) hX dX8_undo_176 bp_20 ?_
    refine r_cvV (st := []) (pc := 178) hX dX8_undo_178 MI_Mo_read MV_Mo_read lkX8_101 k200 (c_Mo_read 209 (20 : Int32) k209 m17) rfl rfl (Nat.le_of_ble_eq_true rfl) (by decide) (fun m18 => ?_)
    refine r_aload_n (pc := 181) hX 0 dX8_undo_181 rfl rfl ?_
    refine r_getI (pc := 182) hX dX8_undo_182 fp8_98 k200 (by decide) ?_
    exact r_iretI (pc := 185) hX hE dX8_undo_185
  · skip
    refine r_bipush (pc := 12) hX dX8_undo_12 bp_m4 ?_
    exact r_iretI (pc := 14) hX hE dX8_undo_14
def f_Mo_isPlace (a0 : Int32) (a1 : Int32) (m : Me) : Option Int32 := cP (f_Mo_in a0 (0 : Int32) (1000 : Int32) m) (fun v1 => if v1 = 0 then some (0 : Int32) else cP (f_Mo_in a1 (0 : Int32) (1000 : Int32) m) (fun v2 => if v2 = 0 then some (0 : Int32) else some (1 : Int32)))
set_option maxHeartbeats 4000000 in
set_option maxRecDepth 100000 in
theorem c_Mo_isPlace (a0 : Int32) (a1 : Int32)  (m : Me) (r : Int32) (h : f_Mo_isPlace a0 a1 m = some r) : Ct yX8_isPlace cX8_isPlace 2 (some .boolean) 1 (fun ad => [.int a0, .int a1]) m (fun ad => (some (.int r), m)) := by
  refine mk_ct (F := f_Mo_isPlace a0 a1 m) (fun _ => oP m) r h (fun _ => rfl) (by decide) (fun _ => Nat.le_of_ble_eq_true rfl) ?_
  intro X hX hE
  show J X (oP m) (f_Mo_isPlace a0 a1 m) m 0 [(0, .int a0), (1, .int a1)] []
  unfold f_Mo_isPlace
  refine r_iload_n (pc := 0) hX 0 dX8_isPlace_0 rfl rfl ?_
  refine r_iconst (pc := 1) hX dX8_isPlace_1 ic_0 ?_
  refine r_sipush (pc := 2) hX dX8_isPlace_2 sp_1000 ?_
  refine r_csP (st := []) (pc := 5) hX dX8_isPlace_5 MI_Mo_in MS_Mo_in lkX8_104 (c_Mo_in a0 (0 : Int32) (1000 : Int32) m) rfl rfl (Nat.le_of_ble_eq_true rfl) (by decide) (fun v1 => ?_)
  refine r_if_eq (tgt := 26) (pc := 8) hX dX8_isPlace_8 (by decide) ?_ ?_
  · skip
    refine r_iconst (pc := 26) hX dX8_isPlace_26 ic_0 ?_
    exact r_zretPk (pc := 27) hX hE dX8_isPlace_27 (by decide)
  · skip
    refine r_iload_n (pc := 11) hX 1 dX8_isPlace_11 rfl rfl ?_
    refine r_iconst (pc := 12) hX dX8_isPlace_12 ic_0 ?_
    refine r_sipush (pc := 13) hX dX8_isPlace_13 sp_1000 ?_
    refine r_csP (st := []) (pc := 16) hX dX8_isPlace_16 MI_Mo_in MS_Mo_in lkX8_104 (c_Mo_in a1 (0 : Int32) (1000 : Int32) m) rfl rfl (Nat.le_of_ble_eq_true rfl) (by decide) (fun v2 => ?_)
    refine r_if_eq (tgt := 26) (pc := 19) hX dX8_isPlace_19 (by decide) ?_ ?_
    · skip
      refine r_iconst (pc := 26) hX dX8_isPlace_26 ic_0 ?_
      exact r_zretPk (pc := 27) hX hE dX8_isPlace_27 (by decide)
    · skip
      refine r_iconst (pc := 22) hX dX8_isPlace_22 ic_1 ?_
      refine r_goto (tgt := 27) (pc := 23) hX dX8_isPlace_23 (by decide) ?_
      exact r_zretPk (pc := 27) hX hE dX8_isPlace_27 (by decide)
def f_Mo_isName (a0 : Int32) (m : Me) : Option Int32 := cP (f_Mo_in a0 (0 : Int32) (((m.1 200 1)) - (1 : Int32)) m) (fun v1 => zg v1 v1)
set_option maxHeartbeats 4000000 in
set_option maxRecDepth 100000 in
theorem c_Mo_isName (a0 : Int32)  (m : Me) (r : Int32) (h : f_Mo_isName a0 m = some r) : Ct yX8_isName cX8_isName 2 (some .boolean) 1 (fun ad => [.ref (ad 200), .int a0]) m (fun ad => (some (.int r), m)) := by
  refine mk_ct (F := f_Mo_isName a0 m) (fun _ => oP m) r h (fun _ => rfl) (by decide) (fun _ => Nat.le_of_ble_eq_true rfl) ?_
  intro X hX hE
  show J X (oP m) (f_Mo_isName a0 m) m 0 [(0, rX X 200), (1, .int a0)] []
  unfold f_Mo_isName
  refine r_iload_n (pc := 0) hX 1 dX8_isName_0 rfl rfl ?_
  refine r_iconst (pc := 1) hX dX8_isName_1 ic_0 ?_
  refine r_aload_n (pc := 2) hX 0 dX8_isName_2 rfl rfl ?_
  refine r_getI (pc := 3) hX dX8_isName_3 fp8_88 k200 (by decide) ?_
  refine r_iconst (pc := 6) hX dX8_isName_6 ic_1 ?_
  refine r_isub (pc := 7) hX dX8_isName_7 ?_
  refine r_csP (st := []) (pc := 8) hX dX8_isName_8 MI_Mo_in MS_Mo_in lkX8_104 (c_Mo_in a0 (0 : Int32) (((m.1 200 1)) - (1 : Int32)) m) rfl rfl (Nat.le_of_ble_eq_true rfl) (by decide) (fun v1 => ?_)
  exact r_zretP (pc := 11) hX hE dX8_isName_11
def f_Mo_name (a0 : Int32) (a1 : Int32) (a2 : Int32) (m : Me) : Option (Int32 × Me) := bd (si m 200 0 (0 : Int32)) (fun m1 => cP (f_Mo_in a0 (0 : Int32) (3 : Int32) m1) (fun v2 => if v2 = 0 then some ((-3 : Int32), m1) else cP (f_Mo_isPlace a1 a2 m1) (fun v3 => if v3 = 0 then some ((-3 : Int32), m1) else if (m1.1 200 1) = (24 : Int32) then some ((-5 : Int32), m1) else cP (f_Mo_keep m1) (fun m4 => wi m4 201 (ln 201) (m4.1 200 1) a0 (fun m5 => wi m5 202 (ln 202) (m5.1 200 1) a1 (fun m6 => wi m6 203 (ln 203) (m6.1 200 1) a2 (fun m7 => wi m7 204 (ln 204) (m7.1 200 1) (20 : Int32) (fun m8 => wi m8 205 (ln 205) (m8.1 200 1) (8 : Int32) (fun m9 => wi m9 206 (ln 206) (m9.1 200 1) (100 : Int32) (fun m10 => wi m10 207 (ln 207) (m10.1 200 1) (16 : Int32) (fun m11 => bd (si m11 200 1 (((m11.1 200 1)) + (1 : Int32))) (fun m12 => some ((((m12.1 200 1)) - (1 : Int32)), m12)))))))))))))
set_option maxHeartbeats 4000000 in
set_option maxRecDepth 100000 in
theorem c_Mo_name (a0 : Int32) (a1 : Int32) (a2 : Int32)  (m : Me) (r : Int32) (m' : Me) (h : f_Mo_name a0 a1 a2 m = some (r, m')) : Ct yX8_name cX8_name 4 (some .int) 2 (fun ad => [.ref (ad 200), .int a0, .int a1, .int a2]) m (fun ad => (some (.int r), m')) := by
  refine mk_ct (F := f_Mo_name a0 a1 a2 m) (fun _ => oI) (r, m') h (fun _ => rfl) (by decide) (fun _ => Nat.le_of_ble_eq_true rfl) ?_
  intro X hX hE
  show J X oI (f_Mo_name a0 a1 a2 m) m 0 [(0, rX X 200), (1, .int a0), (2, .int a1), (3, .int a2)] []
  unfold f_Mo_name
  refine r_aload_n (pc := 0) hX 0 dX8_name_0 rfl rfl ?_
  refine r_iconst (pc := 1) hX dX8_name_1 ic_0 ?_
  refine r_putI (pc := 2) hX dX8_name_2 fp8_78 k200 (fun m1 => ?_)
  refine r_iload_n (pc := 5) hX 1 dX8_name_5 rfl rfl ?_
  refine r_iconst (pc := 6) hX dX8_name_6 ic_0 ?_
  refine r_iconst (pc := 7) hX dX8_name_7 ic_3 ?_
  refine r_csP (st := []) (pc := 8) hX dX8_name_8 MI_Mo_in MS_Mo_in lkX8_104 (c_Mo_in a0 (0 : Int32) (3 : Int32) m1) rfl rfl (Nat.le_of_ble_eq_true rfl) (by decide) (fun v2 => ?_)
  refine r_if_eq (tgt := 22) (pc := 11) hX dX8_name_11 (by decide) ?_ ?_
  · skip
    refine r_bipush (pc := 22) hX dX8_name_22 bp_m3 ?_
    exact r_iretI (pc := 24) hX hE dX8_name_24
  · skip
    refine r_iload_n (pc := 14) hX 2 dX8_name_14 rfl rfl ?_
    refine r_iload_n (pc := 15) hX 3 dX8_name_15 rfl rfl ?_
    refine r_csP (st := []) (pc := 16) hX dX8_name_16 MI_Mo_isPlace MS_Mo_isPlace lkX8_108 (c_Mo_isPlace a1 a2 m1) rfl rfl (Nat.le_of_ble_eq_true rfl) (by decide) (fun v3 => ?_)
    refine r_if_ne (tgt := 25) (pc := 19) hX dX8_name_19 (by decide) ?_ ?_
    · skip
      refine r_aload_n (pc := 25) hX 0 dX8_name_25 rfl rfl ?_
      refine r_getI (pc := 26) hX dX8_name_26 fp8_88 k200 (by decide) ?_
      refine r_bipush (pc := 29) hX dX8_name_29 bp_24 ?_
      refine r_icmp_ne (tgt := 37) (pc := 31) hX dX8_name_31 (by decide) ?_ ?_
      · skip
        refine r_aload_n (pc := 37) hX 0 dX8_name_37 rfl rfl ?_
        refine r_cvV (st := []) (pc := 38) hX dX8_name_38 MI_Mo_keep MV_Mo_keep lkX8_112 k200 (c_Mo_keep m1) rfl rfl (Nat.le_of_ble_eq_true rfl) (by decide) (fun m4 => ?_)
        refine r_aload_n (pc := 41) hX 0 dX8_name_41 rfl rfl ?_
        refine r_getR (pc := 42) hX dX8_name_42 fp8_7 k200 rfl g200_3 ?_
        refine r_aload_n (pc := 45) hX 0 dX8_name_45 rfl rfl ?_
        refine r_getI (pc := 46) hX dX8_name_46 fp8_88 k200 (by decide) ?_
        refine r_iload_n (pc := 49) hX 1 dX8_name_49 rfl rfl ?_
        refine r_iast (pc := 50) hX dX8_name_50 k201 (fun m5 => ?_)
        refine r_aload_n (pc := 51) hX 0 dX8_name_51 rfl rfl ?_
        refine r_getR (pc := 52) hX dX8_name_52 fp8_13 k200 rfl g200_4 ?_
        refine r_aload_n (pc := 55) hX 0 dX8_name_55 rfl rfl ?_
        refine r_getI (pc := 56) hX dX8_name_56 fp8_88 k200 (by decide) ?_
        refine r_iload_n (pc := 59) hX 2 dX8_name_59 rfl rfl ?_
        refine r_iast (pc := 60) hX dX8_name_60 k202 (fun m6 => ?_)
        refine r_aload_n (pc := 61) hX 0 dX8_name_61 rfl rfl ?_
        refine r_getR (pc := 62) hX dX8_name_62 fp8_16 k200 rfl g200_5 ?_
        refine r_aload_n (pc := 65) hX 0 dX8_name_65 rfl rfl ?_
        refine r_getI (pc := 66) hX dX8_name_66 fp8_88 k200 (by decide) ?_
        refine r_iload_n (pc := 69) hX 3 dX8_name_69 rfl rfl ?_
        refine r_iast (pc := 70) hX dX8_name_70 k203 (fun m7 => ?_)
        refine r_aload_n (pc := 71) hX 0 dX8_name_71 rfl rfl ?_
        refine r_getR (pc := 72) hX dX8_name_72 fp8_19 k200 rfl g200_6 ?_
        refine r_aload_n (pc := 75) hX 0 dX8_name_75 rfl rfl ?_
        refine r_getI (pc := 76) hX dX8_name_76 fp8_88 k200 (by decide) ?_
        refine r_bipush (pc := 79) hX dX8_name_79 bp_20 ?_
        refine r_iast (pc := 81) hX dX8_name_81 k204 (fun m8 => ?_)
        refine r_aload_n (pc := 82) hX 0 dX8_name_82 rfl rfl ?_
        refine r_getR (pc := 83) hX dX8_name_83 fp8_22 k200 rfl g200_7 ?_
        refine r_aload_n (pc := 86) hX 0 dX8_name_86 rfl rfl ?_
        refine r_getI (pc := 87) hX dX8_name_87 fp8_88 k200 (by decide) ?_
        refine r_bipush (pc := 90) hX dX8_name_90 bp_8 ?_
        refine r_iast (pc := 92) hX dX8_name_92 k205 (fun m9 => ?_)
        refine r_aload_n (pc := 93) hX 0 dX8_name_93 rfl rfl ?_
        refine r_getR (pc := 94) hX dX8_name_94 fp8_25 k200 rfl g200_8 ?_
        refine r_aload_n (pc := 97) hX 0 dX8_name_97 rfl rfl ?_
        refine r_getI (pc := 98) hX dX8_name_98 fp8_88 k200 (by decide) ?_
        refine r_bipush (pc := 101) hX dX8_name_101 bp_100 ?_
        refine r_iast (pc := 103) hX dX8_name_103 k206 (fun m10 => ?_)
        refine r_aload_n (pc := 104) hX 0 dX8_name_104 rfl rfl ?_
        refine r_getR (pc := 105) hX dX8_name_105 fp8_28 k200 rfl g200_9 ?_
        refine r_aload_n (pc := 108) hX 0 dX8_name_108 rfl rfl ?_
        refine r_getI (pc := 109) hX dX8_name_109 fp8_88 k200 (by decide) ?_
        refine r_bipush (pc := 112) hX dX8_name_112 bp_16 ?_
        refine r_iast (pc := 114) hX dX8_name_114 k207 (fun m11 => ?_)
        refine r_aload_n (pc := 115) hX 0 dX8_name_115 rfl rfl ?_
        refine r_dup (pc := 116) hX dX8_name_116 rfl ?_
        refine r_getI (pc := 117) hX dX8_name_117 fp8_88 k200 (by decide) ?_
        refine r_iconst (pc := 120) hX dX8_name_120 ic_1 ?_
        refine r_iadd (pc := 121) hX dX8_name_121 ?_
        refine r_putI (pc := 122) hX dX8_name_122 fp8_88 k200 (fun m12 => ?_)
        refine r_aload_n (pc := 125) hX 0 dX8_name_125 rfl rfl ?_
        refine r_getI (pc := 126) hX dX8_name_126 fp8_88 k200 (by decide) ?_
        refine r_iconst (pc := 129) hX dX8_name_129 ic_1 ?_
        refine r_isub (pc := 130) hX dX8_name_130 ?_
        exact r_iretI (pc := 131) hX hE dX8_name_131
      · skip
        refine r_bipush (pc := 34) hX dX8_name_34 bp_m5 ?_
        exact r_iretI (pc := 36) hX hE dX8_name_36
    · skip
      refine r_bipush (pc := 22) hX dX8_name_22 bp_m3 ?_
      exact r_iretI (pc := 24) hX hE dX8_name_24
def f_Mo_dot (a0 : Int32) (a1 : Int32) (m : Me) : Option (Int32 × Me) := bd (si m 200 0 (0 : Int32)) (fun m1 => cP (f_Mo_isPlace a0 a1 m1) (fun v2 => if v2 = 0 then some ((-3 : Int32), m1) else if (m1.1 200 2) = (20 : Int32) then some ((-5 : Int32), m1) else cP (f_Mo_keep m1) (fun m3 => wi m3 208 (ln 208) (m3.1 200 2) a0 (fun m4 => wi m4 209 (ln 209) (m4.1 200 2) a1 (fun m5 => bd (si m5 200 2 (((m5.1 200 2)) + (1 : Int32))) (fun m6 => some ((((m6.1 200 2)) - (1 : Int32)), m6)))))))
set_option maxHeartbeats 4000000 in
set_option maxRecDepth 100000 in
theorem c_Mo_dot (a0 : Int32) (a1 : Int32)  (m : Me) (r : Int32) (m' : Me) (h : f_Mo_dot a0 a1 m = some (r, m')) : Ct yX8_dot cX8_dot 3 (some .int) 2 (fun ad => [.ref (ad 200), .int a0, .int a1]) m (fun ad => (some (.int r), m')) := by
  refine mk_ct (F := f_Mo_dot a0 a1 m) (fun _ => oI) (r, m') h (fun _ => rfl) (by decide) (fun _ => Nat.le_of_ble_eq_true rfl) ?_
  intro X hX hE
  show J X oI (f_Mo_dot a0 a1 m) m 0 [(0, rX X 200), (1, .int a0), (2, .int a1)] []
  unfold f_Mo_dot
  refine r_aload_n (pc := 0) hX 0 dX8_dot_0 rfl rfl ?_
  refine r_iconst (pc := 1) hX dX8_dot_1 ic_0 ?_
  refine r_putI (pc := 2) hX dX8_dot_2 fp8_78 k200 (fun m1 => ?_)
  refine r_iload_n (pc := 5) hX 1 dX8_dot_5 rfl rfl ?_
  refine r_iload_n (pc := 6) hX 2 dX8_dot_6 rfl rfl ?_
  refine r_csP (st := []) (pc := 7) hX dX8_dot_7 MI_Mo_isPlace MS_Mo_isPlace lkX8_108 (c_Mo_isPlace a0 a1 m1) rfl rfl (Nat.le_of_ble_eq_true rfl) (by decide) (fun v2 => ?_)
  refine r_if_ne (tgt := 16) (pc := 10) hX dX8_dot_10 (by decide) ?_ ?_
  · skip
    refine r_aload_n (pc := 16) hX 0 dX8_dot_16 rfl rfl ?_
    refine r_getI (pc := 17) hX dX8_dot_17 fp8_91 k200 (by decide) ?_
    refine r_bipush (pc := 20) hX dX8_dot_20 bp_20 ?_
    refine r_icmp_ne (tgt := 28) (pc := 22) hX dX8_dot_22 (by decide) ?_ ?_
    · skip
      refine r_aload_n (pc := 28) hX 0 dX8_dot_28 rfl rfl ?_
      refine r_cvV (st := []) (pc := 29) hX dX8_dot_29 MI_Mo_keep MV_Mo_keep lkX8_112 k200 (c_Mo_keep m1) rfl rfl (Nat.le_of_ble_eq_true rfl) (by decide) (fun m3 => ?_)
      refine r_aload_n (pc := 32) hX 0 dX8_dot_32 rfl rfl ?_
      refine r_getR (pc := 33) hX dX8_dot_33 fp8_31 k200 rfl g200_10 ?_
      refine r_aload_n (pc := 36) hX 0 dX8_dot_36 rfl rfl ?_
      refine r_getI (pc := 37) hX dX8_dot_37 fp8_91 k200 (by decide) ?_
      refine r_iload_n (pc := 40) hX 1 dX8_dot_40 rfl rfl ?_
      refine r_iast (pc := 41) hX dX8_dot_41 k208 (fun m4 => ?_)
      refine r_aload_n (pc := 42) hX 0 dX8_dot_42 rfl rfl ?_
      refine r_getR (pc := 43) hX dX8_dot_43 fp8_34 k200 rfl g200_11 ?_
      refine r_aload_n (pc := 46) hX 0 dX8_dot_46 rfl rfl ?_
      refine r_getI (pc := 47) hX dX8_dot_47 fp8_91 k200 (by decide) ?_
      refine r_iload_n (pc := 50) hX 2 dX8_dot_50 rfl rfl ?_
      refine r_iast (pc := 51) hX dX8_dot_51 k209 (fun m5 => ?_)
      refine r_aload_n (pc := 52) hX 0 dX8_dot_52 rfl rfl ?_
      refine r_dup (pc := 53) hX dX8_dot_53 rfl ?_
      refine r_getI (pc := 54) hX dX8_dot_54 fp8_91 k200 (by decide) ?_
      refine r_iconst (pc := 57) hX dX8_dot_57 ic_1 ?_
      refine r_iadd (pc := 58) hX dX8_dot_58 ?_
      refine r_putI (pc := 59) hX dX8_dot_59 fp8_91 k200 (fun m6 => ?_)
      refine r_aload_n (pc := 62) hX 0 dX8_dot_62 rfl rfl ?_
      refine r_getI (pc := 63) hX dX8_dot_63 fp8_91 k200 (by decide) ?_
      refine r_iconst (pc := 66) hX dX8_dot_66 ic_1 ?_
      refine r_isub (pc := 67) hX dX8_dot_67 ?_
      exact r_iretI (pc := 68) hX hE dX8_dot_68
    · skip
      refine r_bipush (pc := 25) hX dX8_dot_25 bp_m5 ?_
      exact r_iretI (pc := 27) hX hE dX8_dot_27
  · skip
    refine r_bipush (pc := 13) hX dX8_dot_13 bp_m3 ?_
    exact r_iretI (pc := 15) hX hE dX8_dot_15
def f_Mo_move (a0 : Int32) (a1 : Int32) (a2 : Int32) (m : Me) : Option (Int32 × Me) := bd (si m 200 0 (0 : Int32)) (fun m1 => cP (f_Mo_isName a0 m1) (fun v2 => if v2 = 0 then some ((-3 : Int32), m1) else cP (f_Mo_isPlace a1 a2 m1) (fun v3 => if v3 = 0 then some ((-3 : Int32), m1) else cP (f_Mo_keep m1) (fun m4 => wi m4 202 (ln 202) a0 a1 (fun m5 => wi m5 203 (ln 203) a0 a2 (fun m6 => some ((0 : Int32), m6)))))))
set_option maxHeartbeats 4000000 in
set_option maxRecDepth 100000 in
theorem c_Mo_move (a0 : Int32) (a1 : Int32) (a2 : Int32)  (m : Me) (r : Int32) (m' : Me) (h : f_Mo_move a0 a1 a2 m = some (r, m')) : Ct yX8_move cX8_move 4 (some .int) 2 (fun ad => [.ref (ad 200), .int a0, .int a1, .int a2]) m (fun ad => (some (.int r), m')) := by
  refine mk_ct (F := f_Mo_move a0 a1 a2 m) (fun _ => oI) (r, m') h (fun _ => rfl) (by decide) (fun _ => Nat.le_of_ble_eq_true rfl) ?_
  intro X hX hE
  show J X oI (f_Mo_move a0 a1 a2 m) m 0 [(0, rX X 200), (1, .int a0), (2, .int a1), (3, .int a2)] []
  unfold f_Mo_move
  refine r_aload_n (pc := 0) hX 0 dX8_move_0 rfl rfl ?_
  refine r_iconst (pc := 1) hX dX8_move_1 ic_0 ?_
  refine r_putI (pc := 2) hX dX8_move_2 fp8_78 k200 (fun m1 => ?_)
  refine r_aload_n (pc := 5) hX 0 dX8_move_5 rfl rfl ?_
  refine r_iload_n (pc := 6) hX 1 dX8_move_6 rfl rfl ?_
  refine r_cvP (st := []) (pc := 7) hX dX8_move_7 MI_Mo_isName MV_Mo_isName lkX8_115 k200 (c_Mo_isName a0 m1) rfl rfl (Nat.le_of_ble_eq_true rfl) (by decide) (fun v2 => ?_)
  refine r_if_eq (tgt := 21) (pc := 10) hX dX8_move_10 (by decide) ?_ ?_
  · skip
    refine r_bipush (pc := 21) hX dX8_move_21 bp_m3 ?_
    exact r_iretI (pc := 23) hX hE dX8_move_23
  · skip
    refine r_iload_n (pc := 13) hX 2 dX8_move_13 rfl rfl ?_
    refine r_iload_n (pc := 14) hX 3 dX8_move_14 rfl rfl ?_
    refine r_csP (st := []) (pc := 15) hX dX8_move_15 MI_Mo_isPlace MS_Mo_isPlace lkX8_108 (c_Mo_isPlace a1 a2 m1) rfl rfl (Nat.le_of_ble_eq_true rfl) (by decide) (fun v3 => ?_)
    refine r_if_ne (tgt := 24) (pc := 18) hX dX8_move_18 (by decide) ?_ ?_
    · skip
      refine r_aload_n (pc := 24) hX 0 dX8_move_24 rfl rfl ?_
      refine r_cvV (st := []) (pc := 25) hX dX8_move_25 MI_Mo_keep MV_Mo_keep lkX8_112 k200 (c_Mo_keep m1) rfl rfl (Nat.le_of_ble_eq_true rfl) (by decide) (fun m4 => ?_)
      refine r_aload_n (pc := 28) hX 0 dX8_move_28 rfl rfl ?_
      refine r_getR (pc := 29) hX dX8_move_29 fp8_13 k200 rfl g200_4 ?_
      refine r_iload_n (pc := 32) hX 1 dX8_move_32 rfl rfl ?_
      refine r_iload_n (pc := 33) hX 2 dX8_move_33 rfl rfl ?_
      refine r_iast (pc := 34) hX dX8_move_34 k202 (fun m5 => ?_)
      refine r_aload_n (pc := 35) hX 0 dX8_move_35 rfl rfl ?_
      refine r_getR (pc := 36) hX dX8_move_36 fp8_16 k200 rfl g200_5 ?_
      refine r_iload_n (pc := 39) hX 1 dX8_move_39 rfl rfl ?_
      refine r_iload_n (pc := 40) hX 3 dX8_move_40 rfl rfl ?_
      refine r_iast (pc := 41) hX dX8_move_41 k203 (fun m6 => ?_)
      refine r_iconst (pc := 42) hX dX8_move_42 ic_0 ?_
      exact r_iretI (pc := 43) hX hE dX8_move_43
    · skip
      refine r_bipush (pc := 21) hX dX8_move_21 bp_m3 ?_
      exact r_iretI (pc := 23) hX hE dX8_move_23
def f_Mo_weigh (a0 : Int32) (a1 : Int32) (m : Me) : Option (Int32 × Me) := bd (si m 200 0 (0 : Int32)) (fun m1 => cP (f_Mo_isName a0 m1) (fun v2 => if v2 = 0 then some ((-3 : Int32), m1) else cP (f_Mo_in a1 (1 : Int32) (1000 : Int32) m1) (fun v3 => if v3 = 0 then some ((-3 : Int32), m1) else cP (f_Mo_keep m1) (fun m4 => rd (ln 206) a0 (m4.1 206) (fun v5 => wi m4 206 (ln 206) a0 a1 (fun m6 => some (v5, m6)))))))
set_option maxHeartbeats 4000000 in
set_option maxRecDepth 100000 in
theorem c_Mo_weigh (a0 : Int32) (a1 : Int32)  (m : Me) (r : Int32) (m' : Me) (h : f_Mo_weigh a0 a1 m = some (r, m')) : Ct yX8_weigh cX8_weigh 4 (some .int) 2 (fun ad => [.ref (ad 200), .int a0, .int a1]) m (fun ad => (some (.int r), m')) := by
  refine mk_ct (F := f_Mo_weigh a0 a1 m) (fun _ => oI) (r, m') h (fun _ => rfl) (by decide) (fun _ => Nat.le_of_ble_eq_true rfl) ?_
  intro X hX hE
  show J X oI (f_Mo_weigh a0 a1 m) m 0 [(0, rX X 200), (1, .int a0), (2, .int a1)] []
  unfold f_Mo_weigh
  refine r_aload_n (pc := 0) hX 0 dX8_weigh_0 rfl rfl ?_
  refine r_iconst (pc := 1) hX dX8_weigh_1 ic_0 ?_
  refine r_putI (pc := 2) hX dX8_weigh_2 fp8_78 k200 (fun m1 => ?_)
  refine r_aload_n (pc := 5) hX 0 dX8_weigh_5 rfl rfl ?_
  refine r_iload_n (pc := 6) hX 1 dX8_weigh_6 rfl rfl ?_
  refine r_cvP (st := []) (pc := 7) hX dX8_weigh_7 MI_Mo_isName MV_Mo_isName lkX8_115 k200 (c_Mo_isName a0 m1) rfl rfl (Nat.le_of_ble_eq_true rfl) (by decide) (fun v2 => ?_)
  refine r_if_eq (tgt := 24) (pc := 10) hX dX8_weigh_10 (by decide) ?_ ?_
  · skip
    refine r_bipush (pc := 24) hX dX8_weigh_24 bp_m3 ?_
    exact r_iretI (pc := 26) hX hE dX8_weigh_26
  · skip
    refine r_iload_n (pc := 13) hX 2 dX8_weigh_13 rfl rfl ?_
    refine r_iconst (pc := 14) hX dX8_weigh_14 ic_1 ?_
    refine r_sipush (pc := 15) hX dX8_weigh_15 sp_1000 ?_
    refine r_csP (st := []) (pc := 18) hX dX8_weigh_18 MI_Mo_in MS_Mo_in lkX8_104 (c_Mo_in a1 (1 : Int32) (1000 : Int32) m1) rfl rfl (Nat.le_of_ble_eq_true rfl) (by decide) (fun v3 => ?_)
    refine r_if_ne (tgt := 27) (pc := 21) hX dX8_weigh_21 (by decide) ?_ ?_
    · skip
      refine r_aload_n (pc := 27) hX 0 dX8_weigh_27 rfl rfl ?_
      refine r_cvV (st := []) (pc := 28) hX dX8_weigh_28 MI_Mo_keep MV_Mo_keep lkX8_112 k200 (c_Mo_keep m1) rfl rfl (Nat.le_of_ble_eq_true rfl) (by decide) (fun m4 => ?_)
      refine r_aload_n (pc := 31) hX 0 dX8_weigh_31 rfl rfl ?_
      refine r_getR (pc := 32) hX dX8_weigh_32 fp8_25 k200 rfl g200_8 ?_
      refine r_iload_n (pc := 35) hX 1 dX8_weigh_35 rfl rfl ?_
      refine r_iald (pc := 36) hX dX8_weigh_36 k206 (fun v5 => ?_)
      refine r_istore_n (L' := [(3, .int v5), (0, rX X 200), (1, .int a0), (2, .int a1)]) (pc := 37) hX dX8_weigh_37 rfl (by decide) rfl ?_
      refine r_aload_n (pc := 38) hX 1 dX8_weigh_38 rfl rfl ?_
      refine r_getR (pc := 39) hX dX8_weigh_39 fp8_25 k200 rfl g200_8 ?_
      refine r_iload_n (pc := 42) hX 2 dX8_weigh_42 rfl rfl ?_
      refine r_iload_n (pc := 43) hX 3 dX8_weigh_43 rfl rfl ?_
      refine r_iast (pc := 44) hX dX8_weigh_44 k206 (fun m6 => ?_)
      refine r_iload_n (pc := 45) hX 0 dX8_weigh_45 rfl rfl ?_
      exact r_iretI (pc := 46) hX hE dX8_weigh_46
    · skip
      refine r_bipush (pc := 24) hX dX8_weigh_24 bp_m3 ?_
      exact r_iretI (pc := 26) hX hE dX8_weigh_26
def f_Mo_size (a0 : Int32) (a1 : Int32) (a2 : Int32) (m : Me) : Option (Int32 × Me) := bd (si m 200 0 (0 : Int32)) (fun m1 => cP (f_Mo_isName a0 m1) (fun v2 => if v2 = 0 then some ((-3 : Int32), m1) else cP (f_Mo_in a1 (1 : Int32) (300 : Int32) m1) (fun v3 => if v3 = 0 then some ((-3 : Int32), m1) else cP (f_Mo_in a2 (1 : Int32) (80 : Int32) m1) (fun v4 => if v4 = 0 then some ((-3 : Int32), m1) else cP (f_Mo_keep m1) (fun m5 => wi m5 204 (ln 204) a0 a1 (fun m6 => wi m6 205 (ln 205) a0 a2 (fun m7 => some ((0 : Int32), m7))))))))
set_option maxHeartbeats 4000000 in
set_option maxRecDepth 100000 in
theorem c_Mo_size (a0 : Int32) (a1 : Int32) (a2 : Int32)  (m : Me) (r : Int32) (m' : Me) (h : f_Mo_size a0 a1 a2 m = some (r, m')) : Ct yX8_size cX8_size 4 (some .int) 2 (fun ad => [.ref (ad 200), .int a0, .int a1, .int a2]) m (fun ad => (some (.int r), m')) := by
  refine mk_ct (F := f_Mo_size a0 a1 a2 m) (fun _ => oI) (r, m') h (fun _ => rfl) (by decide) (fun _ => Nat.le_of_ble_eq_true rfl) ?_
  intro X hX hE
  show J X oI (f_Mo_size a0 a1 a2 m) m 0 [(0, rX X 200), (1, .int a0), (2, .int a1), (3, .int a2)] []
  unfold f_Mo_size
  refine r_aload_n (pc := 0) hX 0 dX8_size_0 rfl rfl ?_
  refine r_iconst (pc := 1) hX dX8_size_1 ic_0 ?_
  refine r_putI (pc := 2) hX dX8_size_2 fp8_78 k200 (fun m1 => ?_)
  refine r_aload_n (pc := 5) hX 0 dX8_size_5 rfl rfl ?_
  refine r_iload_n (pc := 6) hX 1 dX8_size_6 rfl rfl ?_
  refine r_cvP (st := []) (pc := 7) hX dX8_size_7 MI_Mo_isName MV_Mo_isName lkX8_115 k200 (c_Mo_isName a0 m1) rfl rfl (Nat.le_of_ble_eq_true rfl) (by decide) (fun v2 => ?_)
  refine r_if_eq (tgt := 34) (pc := 10) hX dX8_size_10 (by decide) ?_ ?_
  · skip
    refine r_bipush (pc := 34) hX dX8_size_34 bp_m3 ?_
    exact r_iretI (pc := 36) hX hE dX8_size_36
  · skip
    refine r_iload_n (pc := 13) hX 2 dX8_size_13 rfl rfl ?_
    refine r_iconst (pc := 14) hX dX8_size_14 ic_1 ?_
    refine r_sipush (pc := 15) hX dX8_size_15 sp_300 ?_
    refine r_csP (st := []) (pc := 18) hX dX8_size_18 MI_Mo_in MS_Mo_in lkX8_104 (c_Mo_in a1 (1 : Int32) (300 : Int32) m1) rfl rfl (Nat.le_of_ble_eq_true rfl) (by decide) (fun v3 => ?_)
    refine r_if_eq (tgt := 34) (pc := 21) hX dX8_size_21 (by decide) ?_ ?_
    · skip
      refine r_bipush (pc := 34) hX dX8_size_34 bp_m3 ?_
      exact r_iretI (pc := 36) hX hE dX8_size_36
    · skip
      refine r_iload_n (pc := 24) hX 3 dX8_size_24 rfl rfl ?_
      refine r_iconst (pc := 25) hX dX8_size_25 ic_1 ?_
      refine r_bipush (pc := 26) hX dX8_size_26 bp_80 ?_
      refine r_csP (st := []) (pc := 28) hX dX8_size_28 MI_Mo_in MS_Mo_in lkX8_104 (c_Mo_in a2 (1 : Int32) (80 : Int32) m1) rfl rfl (Nat.le_of_ble_eq_true rfl) (by decide) (fun v4 => ?_)
      refine r_if_ne (tgt := 37) (pc := 31) hX dX8_size_31 (by decide) ?_ ?_
      · skip
        refine r_aload_n (pc := 37) hX 0 dX8_size_37 rfl rfl ?_
        refine r_cvV (st := []) (pc := 38) hX dX8_size_38 MI_Mo_keep MV_Mo_keep lkX8_112 k200 (c_Mo_keep m1) rfl rfl (Nat.le_of_ble_eq_true rfl) (by decide) (fun m5 => ?_)
        refine r_aload_n (pc := 41) hX 0 dX8_size_41 rfl rfl ?_
        refine r_getR (pc := 42) hX dX8_size_42 fp8_19 k200 rfl g200_6 ?_
        refine r_iload_n (pc := 45) hX 1 dX8_size_45 rfl rfl ?_
        refine r_iload_n (pc := 46) hX 2 dX8_size_46 rfl rfl ?_
        refine r_iast (pc := 47) hX dX8_size_47 k204 (fun m6 => ?_)
        refine r_aload_n (pc := 48) hX 0 dX8_size_48 rfl rfl ?_
        refine r_getR (pc := 49) hX dX8_size_49 fp8_22 k200 rfl g200_7 ?_
        refine r_iload_n (pc := 52) hX 1 dX8_size_52 rfl rfl ?_
        refine r_iload_n (pc := 53) hX 3 dX8_size_53 rfl rfl ?_
        refine r_iast (pc := 54) hX dX8_size_54 k205 (fun m7 => ?_)
        refine r_iconst (pc := 55) hX dX8_size_55 ic_0 ?_
        exact r_iretI (pc := 56) hX hE dX8_size_56
      · skip
        refine r_bipush (pc := 34) hX dX8_size_34 bp_m3 ?_
        exact r_iretI (pc := 36) hX hE dX8_size_36
def f_Mo_ways (a0 : Int32) (m : Me) : Option Int32 := rd (ln 201) a0 (m.1 201) (fun v1 => if v1 = 0 then some (8 : Int32) else some (16 : Int32))
set_option maxHeartbeats 4000000 in
set_option maxRecDepth 100000 in
theorem c_Mo_ways (a0 : Int32)  (m : Me) (r : Int32) (h : f_Mo_ways a0 m = some r) : Ct yX8_ways cX8_ways 2 (some .int) 0 (fun ad => [.ref (ad 200), .int a0]) m (fun ad => (some (.int r), m)) := by
  refine mk_ct (F := f_Mo_ways a0 m) (fun _ => oP m) r h (fun _ => rfl) (by decide) (fun _ => Nat.le_of_ble_eq_true rfl) ?_
  intro X hX hE
  show J X (oP m) (f_Mo_ways a0 m) m 0 [(0, rX X 200), (1, .int a0)] []
  unfold f_Mo_ways
  refine r_aload_n (pc := 0) hX 0 dX8_ways_0 rfl rfl ?_
  refine r_getR (pc := 1) hX dX8_ways_1 fp8_7 k200 rfl g200_3 ?_
  refine r_iload_n (pc := 4) hX 1 dX8_ways_4 rfl rfl ?_
  refine r_iald (pc := 5) hX dX8_ways_5 k201 (fun v1 => ?_)
  refine r_if_ne (tgt := 14) (pc := 6) hX dX8_ways_6 (by decide) ?_ ?_
  · skip
    refine r_bipush (pc := 14) hX dX8_ways_14 bp_16 ?_
    exact r_iretP (pc := 16) hX hE dX8_ways_16
  · skip
    refine r_bipush (pc := 9) hX dX8_ways_9 bp_8 ?_
    refine r_goto (tgt := 16) (pc := 11) hX dX8_ways_11 (by decide) ?_
    exact r_iretP (pc := 16) hX hE dX8_ways_16
def f_Mo_isLed (a0 : Int32) (a1 : Int32) (m : Me) : Option Int32 := rd (ln 201) a0 (m.1 201) (fun v1 => if v1 < (2 : Int32) then some (0 : Int32) else if a1 < (8 : Int32) then some (0 : Int32) else some (1 : Int32))
set_option maxHeartbeats 4000000 in
set_option maxRecDepth 100000 in
theorem c_Mo_isLed (a0 : Int32) (a1 : Int32)  (m : Me) (r : Int32) (h : f_Mo_isLed a0 a1 m = some r) : Ct yX8_isLed cX8_isLed 3 (some .boolean) 0 (fun ad => [.ref (ad 200), .int a0, .int a1]) m (fun ad => (some (.int r), m)) := by
  refine mk_ct (F := f_Mo_isLed a0 a1 m) (fun _ => oP m) r h (fun _ => rfl) (by decide) (fun _ => Nat.le_of_ble_eq_true rfl) ?_
  intro X hX hE
  show J X (oP m) (f_Mo_isLed a0 a1 m) m 0 [(0, rX X 200), (1, .int a0), (2, .int a1)] []
  unfold f_Mo_isLed
  refine r_aload_n (pc := 0) hX 0 dX8_isLed_0 rfl rfl ?_
  refine r_getR (pc := 1) hX dX8_isLed_1 fp8_7 k200 rfl g200_3 ?_
  refine r_iload_n (pc := 4) hX 1 dX8_isLed_4 rfl rfl ?_
  refine r_iald (pc := 5) hX dX8_isLed_5 k201 (fun v1 => ?_)
  refine r_iconst (pc := 6) hX dX8_isLed_6 ic_2 ?_
  refine r_icmp_lt (tgt := 20) (pc := 7) hX dX8_isLed_7 (by decide) ?_ ?_
  · skip
    refine r_iconst (pc := 20) hX dX8_isLed_20 ic_0 ?_
    exact r_zretPk (pc := 21) hX hE dX8_isLed_21 (by decide)
  · skip
    refine r_iload_n (pc := 10) hX 2 dX8_isLed_10 rfl rfl ?_
    refine r_bipush (pc := 11) hX dX8_isLed_11 bp_8 ?_
    refine r_icmp_lt (tgt := 20) (pc := 13) hX dX8_isLed_13 (by decide) ?_ ?_
    · skip
      refine r_iconst (pc := 20) hX dX8_isLed_20 ic_0 ?_
      exact r_zretPk (pc := 21) hX hE dX8_isLed_21 (by decide)
    · skip
      refine r_iconst (pc := 16) hX dX8_isLed_16 ic_1 ?_
      refine r_goto (tgt := 21) (pc := 17) hX dX8_isLed_17 (by decide) ?_
      exact r_zretPk (pc := 21) hX hE dX8_isLed_21 (by decide)
def f_Mo_box (a0 : Int32) (a1 : Int32) (a2 : Int32) (m : Me) : Option Me := rd (ln 202) a0 (m.1 202) (fun v1 => bd ((v1 <<< (a2 &&& 31))) (fun v2 => rd (ln 203) a0 (m.1 203) (fun v3 => bd ((v3 <<< (a2 &&& 31))) (fun v4 => rd (ln 201) a0 (m.1 201) (fun v5 => bd (fun (v6 : Int32) => bd (fun (v7 : Int32) => bd (fun (v8 : Int32) => cP (f_Mo_isLed a0 a1 m) (fun v9 => bd (fun (v10 : Int32) => bd ((a1 - a1 / (8 : Int32) * (8 : Int32))) (fun v11 => bd (fun (v12 : Int32) => bd (fun (v13 : Int32) => bd (fun (v14 : Int32) => bd (fun (v15 : Int32) => bd (fun (v16 : Int32) => bd (si m 200 16 v16) (fun m17 => bd (fun (v18 : Int32) => bd (si m17 200 17 v18) (fun m19 => bd (si m19 200 18 v7) (fun m20 => bd (si m20 200 19 v8) (fun m21 => some m21)))) (fun k282_ => if v15 = 0 then if v14 = 0 then (k282_ ((v4 + v10))) else (k282_ ((((v4 - v10)) - v8))) else (k282_ ((v4 - ((v8 / (2 : Int32))))))))) (fun k242_ => if v13 = 0 then if v12 = 0 then (k242_ ((((v2 - v10)) - v7))) else (k242_ ((v2 + v10))) else (k242_ ((v2 - ((v7 / (2 : Int32)))))))) (fun k203_ => bd ((k203_ (1 : Int32))) (fun k198_ => if v11 = (4 : Int32) then (k198_) else if v11 = (5 : Int32) then (k198_) else (k203_ (0 : Int32))))) (fun k184_ => bd ((k184_ (1 : Int32))) (fun k179_ => if v11 = 0 then (k179_) else if v11 = (1 : Int32) then (k179_) else if v11 = (6 : Int32) then (k179_) else (k184_ (0 : Int32))))) (fun k159_ => bd ((k159_ (1 : Int32))) (fun k154_ => if v11 = (6 : Int32) then (k154_) else if v11 = (7 : Int32) then (k154_) else (k159_ (0 : Int32))))) (fun k138_ => bd ((k138_ (1 : Int32))) (fun k133_ => if v11 = 0 then (k133_) else if v11 = (3 : Int32) then (k133_) else if v11 = (4 : Int32) then (k133_) else (k138_ (0 : Int32)))))) (fun k108_ => if v9 = 0 then (k108_ (2 : Int32)) else (k108_ (40 : Int32))))) (fun k91_ => if v6 = 0 then rd (ln 205) a0 (m.1 205) (fun v22 => (k91_ v22)) else rd (ln 205) a0 (m.1 205) (fun v23 => (k91_ (((2 : Int32) * v23)))))) (fun k67_ => if v6 = 0 then rd (ln 204) a0 (m.1 204) (fun v24 => (k67_ v24)) else rd (ln 204) a0 (m.1 204) (fun v25 => (k67_ ((((v25 + (1 : Int32))) / (2 : Int32))))))) (fun k41_ => bd ((k41_ (0 : Int32))) (fun k40_ => if v5 = (1 : Int32) then if a1 < (8 : Int32) then (k40_) else (k41_ (1 : Int32)) else (k40_))))))))
set_option maxHeartbeats 4000000 in
set_option maxRecDepth 100000 in
theorem c_Mo_box (a0 : Int32) (a1 : Int32) (a2 : Int32)  (m : Me) (r : Me) (h : f_Mo_box a0 a1 a2 m = some r) : Ct yX8_box cX8_box 15 none 1 (fun ad => [.ref (ad 200), .int a0, .int a1, .int a2]) m (fun ad => (none, r)) := by
  refine mk_ct (F := f_Mo_box a0 a1 a2 m) (fun _ => oV) r h (fun _ => rfl) (by decide) (fun _ => Nat.le_of_ble_eq_true rfl) ?_
  intro X hX hE
  show J X oV (f_Mo_box a0 a1 a2 m) m 0 [(0, rX X 200), (1, .int a0), (2, .int a1), (3, .int a2)] []
  unfold f_Mo_box
  refine r_aload_n (pc := 0) hX 0 dX8_box_0 rfl rfl ?_
  refine r_getR (pc := 1) hX dX8_box_1 fp8_13 k200 rfl g200_4 ?_
  refine r_iload_n (pc := 4) hX 1 dX8_box_4 rfl rfl ?_
  refine r_iald (pc := 5) hX dX8_box_5 k202 (fun v1 => ?_)
  refine r_iload_n (pc := 6) hX 3 dX8_box_6 rfl rfl ?_
  refine r_ishl (pc := 7) hX dX8_box_7 ?_
  refine r_nmI (fun v2 => ?_)
  refine r_istore (L' := [(4, .int v2), (0, rX X 200), (1, .int a0), (2, .int a1), (3, .int a2)]) (pc := 8) hX dX8_box_8 (by decide) rfl ?_
  refine r_aload_n (pc := 10) hX 1 dX8_box_10 rfl rfl ?_
  refine r_getR (pc := 11) hX dX8_box_11 fp8_16 k200 rfl g200_5 ?_
  refine r_iload_n (pc := 14) hX 2 dX8_box_14 rfl rfl ?_
  refine r_iald (pc := 15) hX dX8_box_15 k203 (fun v3 => ?_)
  refine r_iload_n (pc := 16) hX 4 dX8_box_16 rfl rfl ?_
  refine r_ishl (pc := 17) hX dX8_box_17 ?_
  refine r_nmI (fun v4 => ?_)
  refine r_istore (L' := [(5, .int v4), (4, .int v2), (0, rX X 200), (1, .int a0), (2, .int a1), (3, .int a2)]) (pc := 18) hX dX8_box_18 (by decide) rfl ?_
  refine r_aload_n (pc := 20) hX 2 dX8_box_20 rfl rfl ?_
  refine r_getR (pc := 21) hX dX8_box_21 fp8_7 k200 rfl g200_3 ?_
  refine r_iload_n (pc := 24) hX 3 dX8_box_24 rfl rfl ?_
  refine r_iald (pc := 25) hX dX8_box_25 k201 (fun v5 => ?_)
  refine r_iconst (pc := 26) hX dX8_box_26 ic_1 ?_
  refine r_join (P := fun k => ∀ (v6 : Int32), J X oV (k v6) m 41 [(0, rX X 200), (1, .int a0), (2, .int a1), (4, .int v2), (5, .int v4)] [.int v6]) ?_ ?_
  · intro v6
    refine r_istore (L' := [(6, .int v6), (0, rX X 200), (1, .int a0), (2, .int a1), (4, .int v2), (5, .int v4)]) (pc := 41) hX dX8_box_41 (by decide) rfl ?_
    refine r_iload (pc := 43) hX 0 dX8_box_43 rfl ?_
    refine r_join (P := fun k => ∀ (v7 : Int32), J X oV (k v7) m 67 [(0, rX X 200), (1, .int a0), (2, .int a1), (4, .int v2), (5, .int v4), (6, .int v6)] [.int v7]) ?_ ?_
    · intro v7
      refine r_istore (L' := [(7, .int v7), (0, rX X 200), (1, .int a0), (2, .int a1), (4, .int v2), (5, .int v4), (6, .int v6)]) (pc := 67) hX dX8_box_67 (by decide) rfl ?_
      refine r_iload (pc := 69) hX 6 dX8_box_69 rfl ?_
      refine r_join (P := fun k => ∀ (v8 : Int32), J X oV (k v8) m 91 [(0, rX X 200), (1, .int a0), (2, .int a1), (4, .int v2), (5, .int v4), (7, .int v7)] [.int v8]) ?_ ?_
      · intro v8
        refine r_istore (L' := [(8, .int v8), (0, rX X 200), (1, .int a0), (2, .int a1), (4, .int v2), (5, .int v4), (7, .int v7)]) (pc := 91) hX dX8_box_91 (by decide) rfl ?_
        refine r_aload_n (pc := 93) hX 1 dX8_box_93 rfl rfl ?_
        refine r_iload_n (pc := 94) hX 2 dX8_box_94 rfl rfl ?_
        refine r_iload_n (pc := 95) hX 3 dX8_box_95 rfl rfl ?_
        refine r_cvP (st := []) (pc := 96) hX dX8_box_96 MI_Mo_isLed MV_Mo_isLed lkX8_119 k200 (c_Mo_isLed a0 a1 m) rfl rfl (Nat.le_of_ble_eq_true rfl) (by decide) (fun v9 => ?_)
        refine r_join (P := fun k => ∀ (v10 : Int32), J X oV (k v10) m 108 [(0, rX X 200), (2, .int a1), (4, .int v2), (5, .int v4), (7, .int v7), (8, .int v8)] [.int v10]) ?_ ?_
        · intro v10
          refine r_istore (L' := [(9, .int v10), (0, rX X 200), (2, .int a1), (4, .int v2), (5, .int v4), (7, .int v7), (8, .int v8)]) (pc := 108) hX dX8_box_108 (by decide) rfl ?_
          refine r_iload_n (pc := 110) hX 2 dX8_box_110 rfl rfl ?_
          refine r_bipush (pc := 111) hX dX8_box_111 bp_8 ?_
          refine r_irem (pc := 113) hX dX8_box_113 (by decide) ?_
          refine r_nmI (fun v11 => ?_)
          refine r_istore (L' := [(10, .int v11), (9, .int v10), (0, rX X 200), (2, .int a1), (4, .int v2), (5, .int v4), (7, .int v7), (8, .int v8)]) (pc := 114) hX dX8_box_114 (by decide) rfl ?_
          refine r_iload (pc := 116) hX 0 dX8_box_116 rfl ?_
          refine r_join (P := fun k => ∀ (v12 : Int32), J X oV (k v12) m 138 [(0, rX X 200), (4, .int v2), (5, .int v4), (7, .int v7), (8, .int v8), (9, .int v10), (10, .int v11)] [.int v12]) ?_ ?_
          · intro v12
            refine r_istore (L' := [(11, .int v12), (0, rX X 200), (4, .int v2), (5, .int v4), (7, .int v7), (8, .int v8), (9, .int v10), (10, .int v11)]) (pc := 138) hX dX8_box_138 (by decide) rfl ?_
            refine r_iload (pc := 140) hX 7 dX8_box_140 rfl ?_
            refine r_bipush (pc := 142) hX dX8_box_142 bp_6 ?_
            refine r_join (P := fun k => ∀ (v13 : Int32), J X oV (k v13) m 159 [(0, rX X 200), (4, .int v2), (5, .int v4), (7, .int v7), (8, .int v8), (9, .int v10), (10, .int v11), (11, .int v12)] [.int v13]) ?_ ?_
            · intro v13
              refine r_istore (L' := [(12, .int v13), (0, rX X 200), (4, .int v2), (5, .int v4), (7, .int v7), (8, .int v8), (9, .int v10), (10, .int v11), (11, .int v12)]) (pc := 159) hX dX8_box_159 (by decide) rfl ?_
              refine r_iload (pc := 161) hX 7 dX8_box_161 rfl ?_
              refine r_join (P := fun k => ∀ (v14 : Int32), J X oV (k v14) m 184 [(0, rX X 200), (4, .int v2), (5, .int v4), (7, .int v7), (8, .int v8), (9, .int v10), (10, .int v11), (11, .int v12), (12, .int v13)] [.int v14]) ?_ ?_
              · intro v14
                refine r_istore (L' := [(13, .int v14), (0, rX X 200), (4, .int v2), (5, .int v4), (7, .int v7), (8, .int v8), (9, .int v10), (10, .int v11), (11, .int v12), (12, .int v13)]) (pc := 184) hX dX8_box_184 (by decide) rfl ?_
                refine r_iload (pc := 186) hX 7 dX8_box_186 rfl ?_
                refine r_iconst (pc := 188) hX dX8_box_188 ic_4 ?_
                refine r_join (P := fun k => ∀ (v15 : Int32), J X oV (k v15) m 203 [(0, rX X 200), (4, .int v2), (5, .int v4), (7, .int v7), (8, .int v8), (9, .int v10), (11, .int v12), (12, .int v13), (13, .int v14)] [.int v15]) ?_ ?_
                · intro v15
                  refine r_istore (L' := [(14, .int v15), (0, rX X 200), (4, .int v2), (5, .int v4), (7, .int v7), (8, .int v8), (9, .int v10), (11, .int v12), (12, .int v13), (13, .int v14)]) (pc := 203) hX dX8_box_203 (by decide) rfl ?_
                  refine r_aload_n (pc := 205) hX 1 dX8_box_205 rfl rfl ?_
                  refine r_iload (pc := 206) hX 8 dX8_box_206 rfl ?_
                  refine r_join (P := fun k => ∀ (v16 : Int32), J X oV (k v16) m 242 [(0, rX X 200), (5, .int v4), (7, .int v7), (8, .int v8), (9, .int v10), (13, .int v14), (14, .int v15)] [.int v16, rX X 200]) ?_ ?_
                  · intro v16
                    refine r_putI (pc := 242) hX dX8_box_242 fp8_122 k200 (fun m17 => ?_)
                    refine r_aload_n (pc := 245) hX 0 dX8_box_245 rfl rfl ?_
                    refine r_iload (pc := 246) hX 6 dX8_box_246 rfl ?_
                    refine r_join (P := fun k => ∀ (v18 : Int32), J X oV (k v18) m17 282 [(0, rX X 200), (7, .int v7), (8, .int v8)] [.int v18, rX X 200]) ?_ ?_
                    · intro v18
                      refine r_putI (pc := 282) hX dX8_box_282 fp8_125 k200 (fun m19 => ?_)
                      refine r_aload_n (pc := 285) hX 0 dX8_box_285 rfl rfl ?_
                      refine r_iload (pc := 286) hX 1 dX8_box_286 rfl ?_
                      refine r_putI (pc := 288) hX dX8_box_288 fp8_128 k200 (fun m20 => ?_)
                      refine r_aload_n (pc := 291) hX 0 dX8_box_291 rfl rfl ?_
                      refine r_iload (pc := 292) hX 2 dX8_box_292 rfl ?_
                      refine r_putI (pc := 294) hX dX8_box_294 fp8_131 k200 (fun m21 => ?_)
                      exact r_vret (pc := 297) hX hE dX8_box_297
                    intro k282_ hk282_
                    refine r_if_eq (tgt := 261) (pc := 248) hX dX8_box_248 (by decide) ?_ ?_
                    · skip
                      refine r_iload (pc := 261) hX 5 dX8_box_261 rfl ?_
                      refine r_if_eq (tgt := 277) (pc := 263) hX dX8_box_263 (by decide) ?_ ?_
                      · skip
                        refine r_iload (pc := 277) hX 1 dX8_box_277 rfl ?_
                        refine r_iload (pc := 279) hX 4 dX8_box_279 rfl ?_
                        refine r_iadd (pc := 281) hX dX8_box_281 ?_
                        exact r_sub [0, 2, 3] rfl (hk282_ ((v4 + v10)))
                      · skip
                        refine r_iload (pc := 266) hX 1 dX8_box_266 rfl ?_
                        refine r_iload (pc := 268) hX 4 dX8_box_268 rfl ?_
                        refine r_isub (pc := 270) hX dX8_box_270 ?_
                        refine r_iload (pc := 271) hX 3 dX8_box_271 rfl ?_
                        refine r_isub (pc := 273) hX dX8_box_273 ?_
                        refine r_goto (tgt := 282) (pc := 274) hX dX8_box_274 (by decide) ?_
                        exact r_sub [0, 2, 3] rfl (hk282_ ((((v4 - v10)) - v8)))
                    · skip
                      refine r_iload (pc := 251) hX 1 dX8_box_251 rfl ?_
                      refine r_iload (pc := 253) hX 3 dX8_box_253 rfl ?_
                      refine r_iconst (pc := 255) hX dX8_box_255 ic_2 ?_
                      refine r_idiv (pc := 256) hX dX8_box_256 (by decide) ?_
                      refine r_isub (pc := 257) hX dX8_box_257 ?_
                      refine r_goto (tgt := 282) (pc := 258) hX dX8_box_258 (by decide) ?_
                      exact r_sub [0, 2, 3] rfl (hk282_ ((v4 - ((v8 / (2 : Int32))))))
                  intro k242_ hk242_
                  refine r_if_eq (tgt := 221) (pc := 208) hX dX8_box_208 (by decide) ?_ ?_
                  · skip
                    refine r_iload (pc := 221) hX 7 dX8_box_221 rfl ?_
                    refine r_if_eq (tgt := 234) (pc := 223) hX dX8_box_223 (by decide) ?_ ?_
                    · skip
                      refine r_iload (pc := 234) hX 2 dX8_box_234 rfl ?_
                      refine r_iload (pc := 236) hX 6 dX8_box_236 rfl ?_
                      refine r_isub (pc := 238) hX dX8_box_238 ?_
                      refine r_iload (pc := 239) hX 4 dX8_box_239 rfl ?_
                      refine r_isub (pc := 241) hX dX8_box_241 ?_
                      exact r_sub [1, 3, 4, 5, 6, 9, 0] rfl (hk242_ ((((v2 - v10)) - v7)))
                    · skip
                      refine r_iload (pc := 226) hX 2 dX8_box_226 rfl ?_
                      refine r_iload (pc := 228) hX 6 dX8_box_228 rfl ?_
                      refine r_iadd (pc := 230) hX dX8_box_230 ?_
                      refine r_goto (tgt := 242) (pc := 231) hX dX8_box_231 (by decide) ?_
                      exact r_sub [1, 3, 4, 5, 6, 9, 0] rfl (hk242_ ((v2 + v10)))
                  · skip
                    refine r_iload (pc := 211) hX 2 dX8_box_211 rfl ?_
                    refine r_iload (pc := 213) hX 4 dX8_box_213 rfl ?_
                    refine r_iconst (pc := 215) hX dX8_box_215 ic_2 ?_
                    refine r_idiv (pc := 216) hX dX8_box_216 (by decide) ?_
                    refine r_isub (pc := 217) hX dX8_box_217 ?_
                    refine r_goto (tgt := 242) (pc := 218) hX dX8_box_218 (by decide) ?_
                    exact r_sub [1, 3, 4, 5, 6, 9, 0] rfl (hk242_ ((v2 - ((v7 / (2 : Int32))))))
                intro k203_ hk203_
                refine r_join (P := fun k => J X oV (k) m 198 [(0, rX X 200), (4, .int v2), (5, .int v4), (7, .int v7), (8, .int v8), (9, .int v10), (11, .int v12), (12, .int v13), (13, .int v14)] []) ?_ ?_
                · skip
                  refine r_iconst (pc := 198) hX dX8_box_198 ic_1 ?_
                  refine r_goto (tgt := 203) (pc := 199) hX dX8_box_199 (by decide) ?_
                  exact hk203_ (1 : Int32)
                intro k198_ hk198_
                refine r_icmp_eq (tgt := 198) (pc := 189) hX dX8_box_189 (by decide) ?_ ?_
                · skip
                  exact r_sub [1, 2, 3, 4, 5, 6, 8, 9, 0] rfl (hk198_)
                · skip
                  refine r_iload (pc := 192) hX 7 dX8_box_192 rfl ?_
                  refine r_iconst (pc := 194) hX dX8_box_194 ic_5 ?_
                  refine r_icmp_ne (tgt := 202) (pc := 195) hX dX8_box_195 (by decide) ?_ ?_
                  · skip
                    refine r_iconst (pc := 202) hX dX8_box_202 ic_0 ?_
                    exact r_sub [1, 2, 3, 4, 5, 6, 8, 9, 0] rfl (hk203_ (0 : Int32))
                  · skip
                    exact r_sub [1, 2, 3, 4, 5, 6, 8, 9, 0] rfl (hk198_)
              intro k184_ hk184_
              refine r_join (P := fun k => J X oV (k) m 179 [(0, rX X 200), (4, .int v2), (5, .int v4), (7, .int v7), (8, .int v8), (9, .int v10), (10, .int v11), (11, .int v12), (12, .int v13)] []) ?_ ?_
              · skip
                refine r_iconst (pc := 179) hX dX8_box_179 ic_1 ?_
                refine r_goto (tgt := 184) (pc := 180) hX dX8_box_180 (by decide) ?_
                exact hk184_ (1 : Int32)
              intro k179_ hk179_
              refine r_if_eq (tgt := 179) (pc := 163) hX dX8_box_163 (by decide) ?_ ?_
              · skip
                exact r_sub [1, 2, 3, 4, 5, 6, 7, 8, 0] rfl (hk179_)
              · skip
                refine r_iload (pc := 166) hX 7 dX8_box_166 rfl ?_
                refine r_iconst (pc := 168) hX dX8_box_168 ic_1 ?_
                refine r_icmp_eq (tgt := 179) (pc := 169) hX dX8_box_169 (by decide) ?_ ?_
                · skip
                  exact r_sub [1, 2, 3, 4, 5, 6, 7, 8, 0] rfl (hk179_)
                · skip
                  refine r_iload (pc := 172) hX 7 dX8_box_172 rfl ?_
                  refine r_bipush (pc := 174) hX dX8_box_174 bp_6 ?_
                  refine r_icmp_ne (tgt := 183) (pc := 176) hX dX8_box_176 (by decide) ?_ ?_
                  · skip
                    refine r_iconst (pc := 183) hX dX8_box_183 ic_0 ?_
                    exact r_sub [1, 2, 3, 4, 5, 6, 7, 8, 0] rfl (hk184_ (0 : Int32))
                  · skip
                    exact r_sub [1, 2, 3, 4, 5, 6, 7, 8, 0] rfl (hk179_)
            intro k159_ hk159_
            refine r_join (P := fun k => J X oV (k) m 154 [(0, rX X 200), (4, .int v2), (5, .int v4), (7, .int v7), (8, .int v8), (9, .int v10), (10, .int v11), (11, .int v12)] []) ?_ ?_
            · skip
              refine r_iconst (pc := 154) hX dX8_box_154 ic_1 ?_
              refine r_goto (tgt := 159) (pc := 155) hX dX8_box_155 (by decide) ?_
              exact hk159_ (1 : Int32)
            intro k154_ hk154_
            refine r_icmp_eq (tgt := 154) (pc := 144) hX dX8_box_144 (by decide) ?_ ?_
            · skip
              exact r_sub [1, 2, 3, 4, 5, 6, 7, 0] rfl (hk154_)
            · skip
              refine r_iload (pc := 147) hX 7 dX8_box_147 rfl ?_
              refine r_bipush (pc := 149) hX dX8_box_149 bp_7 ?_
              refine r_icmp_ne (tgt := 158) (pc := 151) hX dX8_box_151 (by decide) ?_ ?_
              · skip
                refine r_iconst (pc := 158) hX dX8_box_158 ic_0 ?_
                exact r_sub [1, 2, 3, 4, 5, 6, 7, 0] rfl (hk159_ (0 : Int32))
              · skip
                exact r_sub [1, 2, 3, 4, 5, 6, 7, 0] rfl (hk154_)
          intro k138_ hk138_
          refine r_join (P := fun k => J X oV (k) m 133 [(0, rX X 200), (4, .int v2), (5, .int v4), (7, .int v7), (8, .int v8), (9, .int v10), (10, .int v11)] []) ?_ ?_
          · skip
            refine r_iconst (pc := 133) hX dX8_box_133 ic_1 ?_
            refine r_goto (tgt := 138) (pc := 134) hX dX8_box_134 (by decide) ?_
            exact hk138_ (1 : Int32)
          intro k133_ hk133_
          refine r_if_eq (tgt := 133) (pc := 118) hX dX8_box_118 (by decide) ?_ ?_
          · skip
            exact r_sub [2, 4, 5, 6, 7, 1, 0] rfl (hk133_)
          · skip
            refine r_iload (pc := 121) hX 0 dX8_box_121 rfl ?_
            refine r_iconst (pc := 123) hX dX8_box_123 ic_3 ?_
            refine r_icmp_eq (tgt := 133) (pc := 124) hX dX8_box_124 (by decide) ?_ ?_
            · skip
              exact r_sub [2, 4, 5, 6, 7, 1, 0] rfl (hk133_)
            · skip
              refine r_iload (pc := 127) hX 0 dX8_box_127 rfl ?_
              refine r_iconst (pc := 129) hX dX8_box_129 ic_4 ?_
              refine r_icmp_ne (tgt := 137) (pc := 130) hX dX8_box_130 (by decide) ?_ ?_
              · skip
                refine r_iconst (pc := 137) hX dX8_box_137 ic_0 ?_
                exact r_sub [2, 4, 5, 6, 7, 1, 0] rfl (hk138_ (0 : Int32))
              · skip
                exact r_sub [2, 4, 5, 6, 7, 1, 0] rfl (hk133_)
        intro k108_ hk108_
        refine r_if_eq (tgt := 107) (pc := 99) hX dX8_box_99 (by decide) ?_ ?_
        · skip
          refine r_iconst (pc := 107) hX dX8_box_107 ic_2 ?_
          exact r_sub [1, 3, 4, 5, 6, 0] rfl (hk108_ (2 : Int32))
        · skip
          refine r_bipush (pc := 102) hX dX8_box_102 bp_40 ?_
          refine r_goto (tgt := 108) (pc := 104) hX dX8_box_104 (by decide) ?_
          exact r_sub [1, 3, 4, 5, 6, 0] rfl (hk108_ (40 : Int32))
      intro k91_ hk91_
      refine r_if_eq (tgt := 85) (pc := 71) hX dX8_box_71 (by decide) ?_ ?_
      · skip
        refine r_aload_n (pc := 85) hX 1 dX8_box_85 rfl rfl ?_
        refine r_getR (pc := 86) hX dX8_box_86 fp8_22 k200 rfl g200_7 ?_
        refine r_iload_n (pc := 89) hX 2 dX8_box_89 rfl rfl ?_
        refine r_iald (pc := 90) hX dX8_box_90 k205 (fun v22 => ?_)
        exact r_sub [1, 2, 3, 4, 5, 0] rfl (hk91_ v22)
      · skip
        refine r_iconst (pc := 74) hX dX8_box_74 ic_2 ?_
        refine r_aload_n (pc := 75) hX 1 dX8_box_75 rfl rfl ?_
        refine r_getR (pc := 76) hX dX8_box_76 fp8_22 k200 rfl g200_7 ?_
        refine r_iload_n (pc := 79) hX 2 dX8_box_79 rfl rfl ?_
        refine r_iald (pc := 80) hX dX8_box_80 k205 (fun v23 => ?_)
        refine r_imul (pc := 81) hX dX8_box_81 ?_
        refine r_goto (tgt := 91) (pc := 82) hX dX8_box_82 (by decide) ?_
        exact r_sub [1, 2, 3, 4, 5, 0] rfl (hk91_ (((2 : Int32) * v23)))
    intro k67_ hk67_
    refine r_if_eq (tgt := 61) (pc := 45) hX dX8_box_45 (by decide) ?_ ?_
    · skip
      refine r_aload_n (pc := 61) hX 1 dX8_box_61 rfl rfl ?_
      refine r_getR (pc := 62) hX dX8_box_62 fp8_19 k200 rfl g200_6 ?_
      refine r_iload_n (pc := 65) hX 2 dX8_box_65 rfl rfl ?_
      refine r_iald (pc := 66) hX dX8_box_66 k204 (fun v24 => ?_)
      exact r_sub [1, 2, 3, 4, 5, 0] rfl (hk67_ v24)
    · skip
      refine r_aload_n (pc := 48) hX 1 dX8_box_48 rfl rfl ?_
      refine r_getR (pc := 49) hX dX8_box_49 fp8_19 k200 rfl g200_6 ?_
      refine r_iload_n (pc := 52) hX 2 dX8_box_52 rfl rfl ?_
      refine r_iald (pc := 53) hX dX8_box_53 k204 (fun v25 => ?_)
      refine r_iconst (pc := 54) hX dX8_box_54 ic_1 ?_
      refine r_iadd (pc := 55) hX dX8_box_55 ?_
      refine r_iconst (pc := 56) hX dX8_box_56 ic_2 ?_
      refine r_idiv (pc := 57) hX dX8_box_57 (by decide) ?_
      refine r_goto (tgt := 67) (pc := 58) hX dX8_box_58 (by decide) ?_
      exact r_sub [1, 2, 3, 4, 5, 0] rfl (hk67_ ((((v25 + (1 : Int32))) / (2 : Int32))))
  intro k41_ hk41_
  refine r_join (P := fun k => J X oV (k) m 40 [(0, rX X 200), (1, .int a0), (2, .int a1), (4, .int v2), (5, .int v4)] []) ?_ ?_
  · skip
    refine r_iconst (pc := 40) hX dX8_box_40 ic_0 ?_
    exact hk41_ (0 : Int32)
  intro k40_ hk40_
  refine r_icmp_ne (tgt := 40) (pc := 27) hX dX8_box_27 (by decide) ?_ ?_
  · skip
    exact r_sub [2, 3, 4, 1, 0] rfl (hk40_)
  · skip
    refine r_iload_n (pc := 30) hX 4 dX8_box_30 rfl rfl ?_
    refine r_bipush (pc := 31) hX dX8_box_31 bp_8 ?_
    refine r_icmp_lt (tgt := 40) (pc := 33) hX dX8_box_33 (by decide) ?_ ?_
    · skip
      exact r_sub [2, 3, 4, 1, 0] rfl (hk40_)
    · skip
      refine r_iconst (pc := 36) hX dX8_box_36 ic_1 ?_
      refine r_goto (tgt := 41) (pc := 37) hX dX8_box_37 (by decide) ?_
      exact r_sub [2, 3, 4, 1, 0] rfl (hk41_ (1 : Int32))
def f_Mo_priceOf (a0 : Int32) (a1 : Int32) (m : Me) : Option Int32 := if (8 : Int32) ≤ a1 then rd (ln 201) a0 (m.1 201) (fun v1 => if v1 = (1 : Int32) then some ((((5 : Int32) * ((a1 - (8 : Int32))))) + (20 : Int32)) else some ((((5 : Int32) * ((a1 - (8 : Int32))))) + (50 : Int32))) else some ((5 : Int32) * a1)
set_option maxHeartbeats 4000000 in
set_option maxRecDepth 100000 in
theorem c_Mo_priceOf (a0 : Int32) (a1 : Int32)  (m : Me) (r : Int32) (h : f_Mo_priceOf a0 a1 m = some r) : Ct yX8_priceOf cX8_priceOf 3 (some .int) 0 (fun ad => [.ref (ad 200), .int a0, .int a1]) m (fun ad => (some (.int r), m)) := by
  refine mk_ct (F := f_Mo_priceOf a0 a1 m) (fun _ => oP m) r h (fun _ => rfl) (by decide) (fun _ => Nat.le_of_ble_eq_true rfl) ?_
  intro X hX hE
  show J X (oP m) (f_Mo_priceOf a0 a1 m) m 0 [(0, rX X 200), (1, .int a0), (2, .int a1)] []
  unfold f_Mo_priceOf
  refine r_iload_n (pc := 0) hX 2 dX8_priceOf_0 rfl rfl ?_
  refine r_bipush (pc := 1) hX dX8_priceOf_1 bp_8 ?_
  refine r_icmp_ge (tgt := 12) (pc := 3) hX dX8_priceOf_3 (by decide) ?_ ?_
  · skip
    refine r_iconst (pc := 12) hX dX8_priceOf_12 ic_5 ?_
    refine r_iload_n (pc := 13) hX 2 dX8_priceOf_13 rfl rfl ?_
    refine r_bipush (pc := 14) hX dX8_priceOf_14 bp_8 ?_
    refine r_isub (pc := 16) hX dX8_priceOf_16 ?_
    refine r_imul (pc := 17) hX dX8_priceOf_17 ?_
    refine r_aload_n (pc := 18) hX 0 dX8_priceOf_18 rfl rfl ?_
    refine r_getR (pc := 19) hX dX8_priceOf_19 fp8_7 k200 rfl g200_3 ?_
    refine r_iload_n (pc := 22) hX 1 dX8_priceOf_22 rfl rfl ?_
    refine r_iald (pc := 23) hX dX8_priceOf_23 k201 (fun v1 => ?_)
    refine r_iconst (pc := 24) hX dX8_priceOf_24 ic_1 ?_
    refine r_icmp_ne (tgt := 33) (pc := 25) hX dX8_priceOf_25 (by decide) ?_ ?_
    · skip
      refine r_bipush (pc := 33) hX dX8_priceOf_33 bp_50 ?_
      refine r_iadd (pc := 35) hX dX8_priceOf_35 ?_
      exact r_iretP (pc := 36) hX hE dX8_priceOf_36
    · skip
      refine r_bipush (pc := 28) hX dX8_priceOf_28 bp_20 ?_
      refine r_goto (tgt := 35) (pc := 30) hX dX8_priceOf_30 (by decide) ?_
      refine r_iadd (pc := 35) hX dX8_priceOf_35 ?_
      exact r_iretP (pc := 36) hX hE dX8_priceOf_36
  · skip
    refine r_iconst (pc := 6) hX dX8_priceOf_6 ic_5 ?_
    refine r_iload_n (pc := 7) hX 2 dX8_priceOf_7 rfl rfl ?_
    refine r_imul (pc := 8) hX dX8_priceOf_8 ?_
    refine r_goto (tgt := 36) (pc := 9) hX dX8_priceOf_9 (by decide) ?_
    exact r_iretP (pc := 36) hX hE dX8_priceOf_36
def f_Mo_covers (a0 : Int32) (a1 : Int32) (m : Me) : Option Int32 := if a0 ≤ (m.1 200 16) then some (0 : Int32) else if (((m.1 200 16)) + ((m.1 200 18))) ≤ a0 then some (0 : Int32) else if a1 ≤ (m.1 200 17) then some (0 : Int32) else if (((m.1 200 17)) + ((m.1 200 19))) ≤ a1 then some (0 : Int32) else some (1 : Int32)
set_option maxHeartbeats 4000000 in
set_option maxRecDepth 100000 in
theorem c_Mo_covers (a0 : Int32) (a1 : Int32)  (m : Me) (r : Int32) (h : f_Mo_covers a0 a1 m = some r) : Ct yX8_covers cX8_covers 3 (some .boolean) 0 (fun ad => [.ref (ad 200), .int a0, .int a1]) m (fun ad => (some (.int r), m)) := by
  refine mk_ct (F := f_Mo_covers a0 a1 m) (fun _ => oP m) r h (fun _ => rfl) (by decide) (fun _ => Nat.le_of_ble_eq_true rfl) ?_
  intro X hX hE
  show J X (oP m) (f_Mo_covers a0 a1 m) m 0 [(0, rX X 200), (1, .int a0), (2, .int a1)] []
  unfold f_Mo_covers
  refine r_iload_n (pc := 0) hX 1 dX8_covers_0 rfl rfl ?_
  refine r_aload_n (pc := 1) hX 0 dX8_covers_1 rfl rfl ?_
  refine r_getI (pc := 2) hX dX8_covers_2 fp8_122 k200 (by decide) ?_
  refine r_icmp_le (tgt := 46) (pc := 5) hX dX8_covers_5 (by decide) ?_ ?_
  · skip
    refine r_iconst (pc := 46) hX dX8_covers_46 ic_0 ?_
    exact r_zretPk (pc := 47) hX hE dX8_covers_47 (by decide)
  · skip
    refine r_iload_n (pc := 8) hX 1 dX8_covers_8 rfl rfl ?_
    refine r_aload_n (pc := 9) hX 0 dX8_covers_9 rfl rfl ?_
    refine r_getI (pc := 10) hX dX8_covers_10 fp8_122 k200 (by decide) ?_
    refine r_aload_n (pc := 13) hX 0 dX8_covers_13 rfl rfl ?_
    refine r_getI (pc := 14) hX dX8_covers_14 fp8_128 k200 (by decide) ?_
    refine r_iadd (pc := 17) hX dX8_covers_17 ?_
    refine r_icmp_ge (tgt := 46) (pc := 18) hX dX8_covers_18 (by decide) ?_ ?_
    · skip
      refine r_iconst (pc := 46) hX dX8_covers_46 ic_0 ?_
      exact r_zretPk (pc := 47) hX hE dX8_covers_47 (by decide)
    · skip
      refine r_iload_n (pc := 21) hX 2 dX8_covers_21 rfl rfl ?_
      refine r_aload_n (pc := 22) hX 0 dX8_covers_22 rfl rfl ?_
      refine r_getI (pc := 23) hX dX8_covers_23 fp8_125 k200 (by decide) ?_
      refine r_icmp_le (tgt := 46) (pc := 26) hX dX8_covers_26 (by decide) ?_ ?_
      · skip
        refine r_iconst (pc := 46) hX dX8_covers_46 ic_0 ?_
        exact r_zretPk (pc := 47) hX hE dX8_covers_47 (by decide)
      · skip
        refine r_iload_n (pc := 29) hX 2 dX8_covers_29 rfl rfl ?_
        refine r_aload_n (pc := 30) hX 0 dX8_covers_30 rfl rfl ?_
        refine r_getI (pc := 31) hX dX8_covers_31 fp8_125 k200 (by decide) ?_
        refine r_aload_n (pc := 34) hX 0 dX8_covers_34 rfl rfl ?_
        refine r_getI (pc := 35) hX dX8_covers_35 fp8_131 k200 (by decide) ?_
        refine r_iadd (pc := 38) hX dX8_covers_38 ?_
        refine r_icmp_ge (tgt := 46) (pc := 39) hX dX8_covers_39 (by decide) ?_ ?_
        · skip
          refine r_iconst (pc := 46) hX dX8_covers_46 ic_0 ?_
          exact r_zretPk (pc := 47) hX hE dX8_covers_47 (by decide)
        · skip
          refine r_iconst (pc := 42) hX dX8_covers_42 ic_1 ?_
          refine r_goto (tgt := 47) (pc := 43) hX dX8_covers_43 (by decide) ?_
          exact r_zretPk (pc := 47) hX hE dX8_covers_47 (by decide)
def lb_Mo_isOpen_106 (a2 : Int32) (m1 : Me) (s106 : Int32 → Option (Int32 × Me)) (v3 : Int32) : Option (Int32 × Me) := if (m1.1 200 2) ≤ v3 then some ((1 : Int32), m1) else rd (ln 208) v3 (m1.1 208) (fun v4 => rd (ln 209) v3 (m1.1 209) (fun v5 => cP (f_Mo_covers (v4 <<< (a2 &&& 31)) (v5 <<< (a2 &&& 31)) m1) (fun v6 => if v6 = 0 then bd (v3 + 1) (fun v7 => (s106 v7)) else some ((0 : Int32), m1))))
def lb_Mo_isOpen_61 (a2 : Int32) (m1 : Me) (k103_ : Option (Int32 × Me)) (s61 : Int32 → Option (Int32 × Me)) (v8 : Int32) : Option (Int32 × Me) := if (m1.1 200 1) ≤ v8 then (k103_) else rd (ln 202) v8 (m1.1 202) (fun v9 => rd (ln 203) v8 (m1.1 203) (fun v10 => cP (f_Mo_covers (v9 <<< (a2 &&& 31)) (v10 <<< (a2 &&& 31)) m1) (fun v11 => if v11 = 0 then bd (v8 + 1) (fun v12 => (s61 v12)) else some ((0 : Int32), m1))))
def f_Mo_isOpen (a0 : Int32) (a1 : Int32) (a2 : Int32) (m : Me) : Option (Int32 × Me) := cP (f_Mo_box a0 a1 a2 m) (fun m1 => bd (((1000 : Int32) <<< (a2 &&& 31))) (fun v2 => if (m1.1 200 16) < 0 then some ((0 : Int32), m1) else if (m1.1 200 17) < 0 then some ((0 : Int32), m1) else if v2 < (((m1.1 200 16)) + ((m1.1 200 18))) then some ((0 : Int32), m1) else if (((m1.1 200 17)) + ((m1.1 200 19))) ≤ v2 then bd (((fx (lb_Mo_isOpen_106 a2 m1) (fun _ => none) FU) (0 : Int32))) (fun k103_ => ((fx (lb_Mo_isOpen_61 a2 m1 k103_) (fun _ => none) FU) (0 : Int32))) else some ((0 : Int32), m1)))
set_option maxHeartbeats 4000000 in
set_option maxRecDepth 100000 in
theorem c_Mo_isOpen (a0 : Int32) (a1 : Int32) (a2 : Int32)  (m : Me) (r : Int32) (m' : Me) (h : f_Mo_isOpen a0 a1 a2 m = some (r, m')) : Ct yX8_isOpen cX8_isOpen 6 (some .boolean) 2 (fun ad => [.ref (ad 200), .int a0, .int a1, .int a2]) m (fun ad => (some (.int r), m')) := by
  refine mk_ct (F := f_Mo_isOpen a0 a1 a2 m) (fun _ => oI) (r, m') h (fun _ => rfl) (by decide) (fun _ => Nat.le_of_ble_eq_true rfl) ?_
  intro X hX hE
  show J X oI (f_Mo_isOpen a0 a1 a2 m) m 0 [(0, rX X 200), (1, .int a0), (2, .int a1), (3, .int a2)] []
  unfold f_Mo_isOpen
  refine r_aload_n (pc := 0) hX 0 dX8_isOpen_0 rfl rfl ?_
  refine r_iload_n (pc := 1) hX 1 dX8_isOpen_1 rfl rfl ?_
  refine r_iload_n (pc := 2) hX 2 dX8_isOpen_2 rfl rfl ?_
  refine r_iload_n (pc := 3) hX 3 dX8_isOpen_3 rfl rfl ?_
  refine r_cvV (st := []) (pc := 4) hX dX8_isOpen_4 MI_Mo_box MV_Mo_box lkX8_134 k200 (c_Mo_box a0 a1 a2 m) rfl rfl (Nat.le_of_ble_eq_true rfl) (by decide) (fun m1 => ?_)
  refine r_sipush (pc := 7) hX dX8_isOpen_7 sp_1000 ?_
  refine r_iload_n (pc := 10) hX 3 dX8_isOpen_10 rfl rfl ?_
  refine r_ishl (pc := 11) hX dX8_isOpen_11 ?_
  refine r_nmI (fun v2 => ?_)
  refine r_istore (L' := [(4, .int v2), (0, rX X 200), (1, .int a0), (2, .int a1), (3, .int a2)]) (pc := 12) hX dX8_isOpen_12 (by decide) rfl ?_
  refine r_aload_n (pc := 14) hX 1 dX8_isOpen_14 rfl rfl ?_
  refine r_getI (pc := 15) hX dX8_isOpen_15 fp8_122 k200 (by decide) ?_
  refine r_if_lt (tgt := 56) (pc := 18) hX dX8_isOpen_18 (by decide) ?_ ?_
  · skip
    refine r_iconst (pc := 56) hX dX8_isOpen_56 ic_0 ?_
    exact r_zretIk (pc := 57) hX hE dX8_isOpen_57 (by decide)
  · skip
    refine r_aload_n (pc := 21) hX 1 dX8_isOpen_21 rfl rfl ?_
    refine r_getI (pc := 22) hX dX8_isOpen_22 fp8_125 k200 (by decide) ?_
    refine r_if_lt (tgt := 56) (pc := 25) hX dX8_isOpen_25 (by decide) ?_ ?_
    · skip
      refine r_iconst (pc := 56) hX dX8_isOpen_56 ic_0 ?_
      exact r_zretIk (pc := 57) hX hE dX8_isOpen_57 (by decide)
    · skip
      refine r_aload_n (pc := 28) hX 1 dX8_isOpen_28 rfl rfl ?_
      refine r_getI (pc := 29) hX dX8_isOpen_29 fp8_122 k200 (by decide) ?_
      refine r_aload_n (pc := 32) hX 1 dX8_isOpen_32 rfl rfl ?_
      refine r_getI (pc := 33) hX dX8_isOpen_33 fp8_128 k200 (by decide) ?_
      refine r_iadd (pc := 36) hX dX8_isOpen_36 ?_
      refine r_iload (pc := 37) hX 0 dX8_isOpen_37 rfl ?_
      refine r_icmp_gt (tgt := 56) (pc := 39) hX dX8_isOpen_39 (by decide) ?_ ?_
      · skip
        refine r_iconst (pc := 56) hX dX8_isOpen_56 ic_0 ?_
        exact r_zretIk (pc := 57) hX hE dX8_isOpen_57 (by decide)
      · skip
        refine r_aload_n (pc := 42) hX 1 dX8_isOpen_42 rfl rfl ?_
        refine r_getI (pc := 43) hX dX8_isOpen_43 fp8_125 k200 (by decide) ?_
        refine r_aload_n (pc := 46) hX 1 dX8_isOpen_46 rfl rfl ?_
        refine r_getI (pc := 47) hX dX8_isOpen_47 fp8_131 k200 (by decide) ?_
        refine r_iadd (pc := 50) hX dX8_isOpen_50 ?_
        refine r_iload (pc := 51) hX 0 dX8_isOpen_51 rfl ?_
        refine r_icmp_le (tgt := 58) (pc := 53) hX dX8_isOpen_53 (by decide) ?_ ?_
        · skip
          refine r_iconst (pc := 58) hX dX8_isOpen_58 ic_0 ?_
          refine r_istore (L' := [(5, .int (0 : Int32)), (4, .int v2), (0, rX X 200), (1, .int a0), (2, .int a1), (3, .int a2)]) (pc := 59) hX dX8_isOpen_59 (by decide) rfl ?_
          refine r_join (P := fun k => J X oI (k) m1 103 [(0, rX X 200), (3, .int a2)] []) ?_ ?_
          · skip
            refine r_iconst (pc := 103) hX dX8_isOpen_103 ic_0 ?_
            refine r_istore (L' := [(5, .int (0 : Int32)), (0, rX X 200), (3, .int a2)]) (pc := 104) hX dX8_isOpen_104 (by decide) rfl ?_
            have hl106 : ∀ n : Nat, ∀ (v3 : Int32), J X oI (fx (lb_Mo_isOpen_106 a2 m1) (fun _ => none) n v3) m1 106 [(0, rX X 200), (3, .int a2), (5, .int v3)] [] := by
              refine fx_ind (fun (f : Int32 → Option (Int32 × Me)) => ∀ (v3 : Int32), J X oI (f v3) m1 106 [(0, rX X 200), (3, .int a2), (5, .int v3)] []) (fun _ => r_none) ?_
              intro s106 hs106 v3
              unfold lb_Mo_isOpen_106
              refine r_iload (pc := 106) hX 2 dX8_isOpen_106 rfl ?_
              refine r_aload_n (pc := 108) hX 0 dX8_isOpen_108 rfl rfl ?_
              refine r_getI (pc := 109) hX dX8_isOpen_109 fp8_91 k200 (by decide) ?_
              refine r_icmp_ge (tgt := 148) (pc := 112) hX dX8_isOpen_112 (by decide) ?_ ?_
              · skip
                refine r_iconst (pc := 148) hX dX8_isOpen_148 ic_1 ?_
                exact r_zretIk (pc := 149) hX hE dX8_isOpen_149 (by decide)
              · skip
                refine r_aload_n (pc := 115) hX 0 dX8_isOpen_115 rfl rfl ?_
                refine r_aload_n (pc := 116) hX 0 dX8_isOpen_116 rfl rfl ?_
                refine r_getR (pc := 117) hX dX8_isOpen_117 fp8_31 k200 rfl g200_10 ?_
                refine r_iload (pc := 120) hX 2 dX8_isOpen_120 rfl ?_
                refine r_iald (pc := 122) hX dX8_isOpen_122 k208 (fun v4 => ?_)
                refine r_iload_n (pc := 123) hX 1 dX8_isOpen_123 rfl rfl ?_
                refine r_ishl (pc := 124) hX dX8_isOpen_124 ?_
                refine r_aload_n (pc := 125) hX 0 dX8_isOpen_125 rfl rfl ?_
                refine r_getR (pc := 126) hX dX8_isOpen_126 fp8_34 k200 rfl g200_11 ?_
                refine r_iload (pc := 129) hX 2 dX8_isOpen_129 rfl ?_
                refine r_iald (pc := 131) hX dX8_isOpen_131 k209 (fun v5 => ?_)
                refine r_iload_n (pc := 132) hX 1 dX8_isOpen_132 rfl rfl ?_
                refine r_ishl (pc := 133) hX dX8_isOpen_133 ?_
                refine r_cvP (st := []) (pc := 134) hX dX8_isOpen_134 MI_Mo_covers MV_Mo_covers lkX8_138 k200 (c_Mo_covers (v4 <<< (a2 &&& 31)) (v5 <<< (a2 &&& 31)) m1) rfl rfl (Nat.le_of_ble_eq_true rfl) (by decide) (fun v6 => ?_)
                refine r_if_eq (tgt := 142) (pc := 137) hX dX8_isOpen_137 (by decide) ?_ ?_
                · skip
                  refine r_iincN (L' := fun w => [(5, .int w), (0, rX X 200), (3, .int a2)]) (pc := 142) hX 2 dX8_isOpen_142 rfl rfl (by decide) (fun _ => rfl) (fun v7 => ?_)
                  refine r_goto (tgt := 106) (pc := 145) hX dX8_isOpen_145 (by decide) ?_
                  exact r_sub [1, 2, 0] rfl (hs106 v7)
                · skip
                  refine r_iconst (pc := 140) hX dX8_isOpen_140 ic_0 ?_
                  exact r_zretIk (pc := 141) hX hE dX8_isOpen_141 (by decide)
            exact r_sub [1, 2, 0] rfl (hl106 FU (0 : Int32))
          intro k103_ hk103_
          have hl61 : ∀ n : Nat, ∀ (v8 : Int32), J X oI (fx (lb_Mo_isOpen_61 a2 m1 k103_) (fun _ => none) n v8) m1 61 [(0, rX X 200), (3, .int a2), (5, .int v8)] [] := by
            refine fx_ind (fun (f : Int32 → Option (Int32 × Me)) => ∀ (v8 : Int32), J X oI (f v8) m1 61 [(0, rX X 200), (3, .int a2), (5, .int v8)] []) (fun _ => r_none) ?_
            intro s61 hs61 v8
            unfold lb_Mo_isOpen_61
            refine r_iload (pc := 61) hX 2 dX8_isOpen_61 rfl ?_
            refine r_aload_n (pc := 63) hX 0 dX8_isOpen_63 rfl rfl ?_
            refine r_getI (pc := 64) hX dX8_isOpen_64 fp8_88 k200 (by decide) ?_
            refine r_icmp_ge (tgt := 103) (pc := 67) hX dX8_isOpen_67 (by decide) ?_ ?_
            · skip
              exact r_sub [0, 1] rfl (hk103_)
            · skip
              refine r_aload_n (pc := 70) hX 0 dX8_isOpen_70 rfl rfl ?_
              refine r_aload_n (pc := 71) hX 0 dX8_isOpen_71 rfl rfl ?_
              refine r_getR (pc := 72) hX dX8_isOpen_72 fp8_13 k200 rfl g200_4 ?_
              refine r_iload (pc := 75) hX 2 dX8_isOpen_75 rfl ?_
              refine r_iald (pc := 77) hX dX8_isOpen_77 k202 (fun v9 => ?_)
              refine r_iload_n (pc := 78) hX 1 dX8_isOpen_78 rfl rfl ?_
              refine r_ishl (pc := 79) hX dX8_isOpen_79 ?_
              refine r_aload_n (pc := 80) hX 0 dX8_isOpen_80 rfl rfl ?_
              refine r_getR (pc := 81) hX dX8_isOpen_81 fp8_16 k200 rfl g200_5 ?_
              refine r_iload (pc := 84) hX 2 dX8_isOpen_84 rfl ?_
              refine r_iald (pc := 86) hX dX8_isOpen_86 k203 (fun v10 => ?_)
              refine r_iload_n (pc := 87) hX 1 dX8_isOpen_87 rfl rfl ?_
              refine r_ishl (pc := 88) hX dX8_isOpen_88 ?_
              refine r_cvP (st := []) (pc := 89) hX dX8_isOpen_89 MI_Mo_covers MV_Mo_covers lkX8_138 k200 (c_Mo_covers (v9 <<< (a2 &&& 31)) (v10 <<< (a2 &&& 31)) m1) rfl rfl (Nat.le_of_ble_eq_true rfl) (by decide) (fun v11 => ?_)
              refine r_if_eq (tgt := 97) (pc := 92) hX dX8_isOpen_92 (by decide) ?_ ?_
              · skip
                refine r_iincN (L' := fun w => [(5, .int w), (0, rX X 200), (3, .int a2)]) (pc := 97) hX 2 dX8_isOpen_97 rfl rfl (by decide) (fun _ => rfl) (fun v12 => ?_)
                refine r_goto (tgt := 61) (pc := 100) hX dX8_isOpen_100 (by decide) ?_
                exact r_sub [1, 2, 0] rfl (hs61 v12)
              · skip
                refine r_iconst (pc := 95) hX dX8_isOpen_95 ic_0 ?_
                exact r_zretIk (pc := 96) hX hE dX8_isOpen_96 (by decide)
          exact r_sub [2, 5, 0] rfl (hl61 FU (0 : Int32))
        · skip
          refine r_iconst (pc := 56) hX dX8_isOpen_56 ic_0 ?_
          exact r_zretIk (pc := 57) hX hE dX8_isOpen_57 (by decide)
def f_Mo_take (a0 : Nat) (a1 : Int32) (a2 : Int32) (a3 : Int32) (m : Me) : Option Me := cP (f_Mo_box a1 a2 a3 m) (fun m1 => wl m1 a0 (ln a0) (0 : Int32) ((2 : Int64) * (Int32.toInt64 (m1.1 200 16))) (fun m2 => wl m2 a0 (ln a0) (1 : Int32) ((2 : Int64) * (Int32.toInt64 (m2.1 200 17))) (fun m3 => wl m3 a0 (ln a0) (2 : Int32) ((2 : Int64) * (Int32.toInt64 (((m3.1 200 16)) + ((m3.1 200 18))))) (fun m4 => wl m4 a0 (ln a0) (3 : Int32) ((2 : Int64) * (Int32.toInt64 (((m4.1 200 17)) + ((m4.1 200 19))))) (fun m5 => rd (ln 202) a1 (m5.1 202) (fun v6 => wl m5 a0 (ln a0) (4 : Int32) ((2 : Int64) * (Int32.toInt64 (v6 <<< (a3 &&& 31)))) (fun m7 => rd (ln 203) a1 (m7.1 203) (fun v8 => wl m7 a0 (ln a0) (5 : Int32) ((2 : Int64) * (Int32.toInt64 (v8 <<< (a3 &&& 31)))) (fun m9 => wl m9 a0 (ln a0) (6 : Int32) (((2 : Int64) * (Int32.toInt64 (m9.1 200 16))) + (Int32.toInt64 (m9.1 200 18))) (fun m10 => wl m10 a0 (ln a0) (7 : Int32) (((2 : Int64) * (Int32.toInt64 (m10.1 200 17))) + (Int32.toInt64 (m10.1 200 19))) (fun m11 => some m11)))))))))))
set_option maxHeartbeats 4000000 in
set_option maxRecDepth 100000 in
theorem c_Mo_take (a0 : Nat) (a1 : Int32) (a2 : Int32) (a3 : Int32) (ha0 : kd a0 = 21) (m : Me) (r : Me) (h : f_Mo_take a0 a1 a2 a3 m = some r) : Ct yX8_take cX8_take 5 none 2 (fun ad => [.ref (ad 200), .ref (ad a0), .int a1, .int a2, .int a3]) m (fun ad => (none, r)) := by
  refine mk_ct (F := f_Mo_take a0 a1 a2 a3 m) (fun _ => oV) r h (fun _ => rfl) (by decide) (fun _ => Nat.le_of_ble_eq_true rfl) ?_
  intro X hX hE
  show J X oV (f_Mo_take a0 a1 a2 a3 m) m 0 [(0, rX X 200), (1, rX X a0), (2, .int a1), (3, .int a2), (4, .int a3)] []
  unfold f_Mo_take
  refine r_aload_n (pc := 0) hX 0 dX8_take_0 rfl rfl ?_
  refine r_iload_n (pc := 1) hX 2 dX8_take_1 rfl rfl ?_
  refine r_iload_n (pc := 2) hX 3 dX8_take_2 rfl rfl ?_
  refine r_iload (pc := 3) hX 4 dX8_take_3 rfl ?_
  refine r_cvV (st := []) (pc := 5) hX dX8_take_5 MI_Mo_box MV_Mo_box lkX8_134 k200 (c_Mo_box a1 a2 a3 m) rfl rfl (Nat.le_of_ble_eq_true rfl) (by decide) (fun m1 => ?_)
  refine r_aload_n (pc := 8) hX 1 dX8_take_8 rfl rfl ?_
  refine r_iconst (pc := 9) hX dX8_take_9 ic_0 ?_
  refine r_ldc2 (pc := 10) hX dX8_take_10 cnX8_141 ?_
  refine r_aload_n (pc := 13) hX 0 dX8_take_13 rfl rfl ?_
  refine r_getI (pc := 14) hX dX8_take_14 fp8_122 k200 (by decide) ?_
  refine r_i2l (pc := 17) hX dX8_take_17 ?_
  refine r_lmul (pc := 18) hX dX8_take_18 ?_
  refine r_last (pc := 19) hX dX8_take_19 ha0 (fun m2 => ?_)
  refine r_aload_n (pc := 20) hX 1 dX8_take_20 rfl rfl ?_
  refine r_iconst (pc := 21) hX dX8_take_21 ic_1 ?_
  refine r_ldc2 (pc := 22) hX dX8_take_22 cnX8_141 ?_
  refine r_aload_n (pc := 25) hX 0 dX8_take_25 rfl rfl ?_
  refine r_getI (pc := 26) hX dX8_take_26 fp8_125 k200 (by decide) ?_
  refine r_i2l (pc := 29) hX dX8_take_29 ?_
  refine r_lmul (pc := 30) hX dX8_take_30 ?_
  refine r_last (pc := 31) hX dX8_take_31 ha0 (fun m3 => ?_)
  refine r_aload_n (pc := 32) hX 1 dX8_take_32 rfl rfl ?_
  refine r_iconst (pc := 33) hX dX8_take_33 ic_2 ?_
  refine r_ldc2 (pc := 34) hX dX8_take_34 cnX8_141 ?_
  refine r_aload_n (pc := 37) hX 0 dX8_take_37 rfl rfl ?_
  refine r_getI (pc := 38) hX dX8_take_38 fp8_122 k200 (by decide) ?_
  refine r_aload_n (pc := 41) hX 0 dX8_take_41 rfl rfl ?_
  refine r_getI (pc := 42) hX dX8_take_42 fp8_128 k200 (by decide) ?_
  refine r_iadd (pc := 45) hX dX8_take_45 ?_
  refine r_i2l (pc := 46) hX dX8_take_46 ?_
  refine r_lmul (pc := 47) hX dX8_take_47 ?_
  refine r_last (pc := 48) hX dX8_take_48 ha0 (fun m4 => ?_)
  refine r_aload_n (pc := 49) hX 1 dX8_take_49 rfl rfl ?_
  refine r_iconst (pc := 50) hX dX8_take_50 ic_3 ?_
  refine r_ldc2 (pc := 51) hX dX8_take_51 cnX8_141 ?_
  refine r_aload_n (pc := 54) hX 0 dX8_take_54 rfl rfl ?_
  refine r_getI (pc := 55) hX dX8_take_55 fp8_125 k200 (by decide) ?_
  refine r_aload_n (pc := 58) hX 0 dX8_take_58 rfl rfl ?_
  refine r_getI (pc := 59) hX dX8_take_59 fp8_131 k200 (by decide) ?_
  refine r_iadd (pc := 62) hX dX8_take_62 ?_
  refine r_i2l (pc := 63) hX dX8_take_63 ?_
  refine r_lmul (pc := 64) hX dX8_take_64 ?_
  refine r_last (pc := 65) hX dX8_take_65 ha0 (fun m5 => ?_)
  refine r_aload_n (pc := 66) hX 1 dX8_take_66 rfl rfl ?_
  refine r_iconst (pc := 67) hX dX8_take_67 ic_4 ?_
  refine r_ldc2 (pc := 68) hX dX8_take_68 cnX8_141 ?_
  refine r_aload_n (pc := 71) hX 0 dX8_take_71 rfl rfl ?_
  refine r_getR (pc := 72) hX dX8_take_72 fp8_13 k200 rfl g200_4 ?_
  refine r_iload_n (pc := 75) hX 2 dX8_take_75 rfl rfl ?_
  refine r_iald (pc := 76) hX dX8_take_76 k202 (fun v6 => ?_)
  refine r_iload (pc := 77) hX 4 dX8_take_77 rfl ?_
  refine r_ishl (pc := 79) hX dX8_take_79 ?_
  refine r_i2l (pc := 80) hX dX8_take_80 ?_
  refine r_lmul (pc := 81) hX dX8_take_81 ?_
  refine r_last (pc := 82) hX dX8_take_82 ha0 (fun m7 => ?_)
  refine r_aload_n (pc := 83) hX 1 dX8_take_83 rfl rfl ?_
  refine r_iconst (pc := 84) hX dX8_take_84 ic_5 ?_
  refine r_ldc2 (pc := 85) hX dX8_take_85 cnX8_141 ?_
  refine r_aload_n (pc := 88) hX 0 dX8_take_88 rfl rfl ?_
  refine r_getR (pc := 89) hX dX8_take_89 fp8_16 k200 rfl g200_5 ?_
  refine r_iload_n (pc := 92) hX 2 dX8_take_92 rfl rfl ?_
  refine r_iald (pc := 93) hX dX8_take_93 k203 (fun v8 => ?_)
  refine r_iload (pc := 94) hX 4 dX8_take_94 rfl ?_
  refine r_ishl (pc := 96) hX dX8_take_96 ?_
  refine r_i2l (pc := 97) hX dX8_take_97 ?_
  refine r_lmul (pc := 98) hX dX8_take_98 ?_
  refine r_last (pc := 99) hX dX8_take_99 ha0 (fun m9 => ?_)
  refine r_aload_n (pc := 100) hX 1 dX8_take_100 rfl rfl ?_
  refine r_bipush (pc := 101) hX dX8_take_101 bp_6 ?_
  refine r_ldc2 (pc := 103) hX dX8_take_103 cnX8_141 ?_
  refine r_aload_n (pc := 106) hX 0 dX8_take_106 rfl rfl ?_
  refine r_getI (pc := 107) hX dX8_take_107 fp8_122 k200 (by decide) ?_
  refine r_i2l (pc := 110) hX dX8_take_110 ?_
  refine r_lmul (pc := 111) hX dX8_take_111 ?_
  refine r_aload_n (pc := 112) hX 0 dX8_take_112 rfl rfl ?_
  refine r_getI (pc := 113) hX dX8_take_113 fp8_128 k200 (by decide) ?_
  refine r_i2l (pc := 116) hX dX8_take_116 ?_
  refine r_ladd (pc := 117) hX dX8_take_117 ?_
  refine r_last (pc := 118) hX dX8_take_118 ha0 (fun m10 => ?_)
  refine r_aload_n (pc := 119) hX 1 dX8_take_119 rfl rfl ?_
  refine r_bipush (pc := 120) hX dX8_take_120 bp_7 ?_
  refine r_ldc2 (pc := 122) hX dX8_take_122 cnX8_141 ?_
  refine r_aload_n (pc := 125) hX 0 dX8_take_125 rfl rfl ?_
  refine r_getI (pc := 126) hX dX8_take_126 fp8_125 k200 (by decide) ?_
  refine r_i2l (pc := 129) hX dX8_take_129 ?_
  refine r_lmul (pc := 130) hX dX8_take_130 ?_
  refine r_aload_n (pc := 131) hX 0 dX8_take_131 rfl rfl ?_
  refine r_getI (pc := 132) hX dX8_take_132 fp8_131 k200 (by decide) ?_
  refine r_i2l (pc := 135) hX dX8_take_135 ?_
  refine r_ladd (pc := 136) hX dX8_take_136 ?_
  refine r_last (pc := 137) hX dX8_take_137 ha0 (fun m11 => ?_)
  exact r_vret (pc := 138) hX hE dX8_take_138
def f_Mo_signOf (a0 : Int64) (m : Me) : Option Int32 := if (lg_cmp a0 (0 : Int64)) ≤ 0 then if 0 ≤ (lg_cmp a0 (0 : Int64)) then some (0 : Int32) else some (-1 : Int32) else some (1 : Int32)
set_option maxHeartbeats 4000000 in
set_option maxRecDepth 100000 in
theorem c_Mo_signOf (a0 : Int64)  (m : Me) (r : Int32) (h : f_Mo_signOf a0 m = some r) : Ct yX8_signOf cX8_signOf 2 (some .int) 0 (fun ad => [.long a0]) m (fun ad => (some (.int r), m)) := by
  refine mk_ct (F := f_Mo_signOf a0 m) (fun _ => oP m) r h (fun _ => rfl) (by decide) (fun _ => Nat.le_of_ble_eq_true rfl) ?_
  intro X hX hE
  show J X (oP m) (f_Mo_signOf a0 m) m 0 [(0, .long a0)] []
  unfold f_Mo_signOf
  refine r_lload_n (pc := 0) hX 0 dX8_signOf_0 rfl rfl ?_
  refine r_lconst (v := (0 : Int64)) (pc := 1) hX dX8_signOf_1 (by decide) ?_
  refine r_lcmp (pc := 2) hX dX8_signOf_2 ?_
  refine r_if_le (tgt := 10) (pc := 3) hX dX8_signOf_3 (by decide) ?_ ?_
  · skip
    refine r_lload_n (pc := 10) hX 0 dX8_signOf_10 rfl rfl ?_
    refine r_lconst (v := (0 : Int64)) (pc := 11) hX dX8_signOf_11 (by decide) ?_
    refine r_lcmp (pc := 12) hX dX8_signOf_12 ?_
    refine r_if_ge (tgt := 20) (pc := 13) hX dX8_signOf_13 (by decide) ?_ ?_
    · skip
      refine r_iconst (pc := 20) hX dX8_signOf_20 ic_0 ?_
      exact r_iretP (pc := 21) hX hE dX8_signOf_21
    · skip
      refine r_iconst (pc := 16) hX dX8_signOf_16 ic_m1 ?_
      refine r_goto (tgt := 21) (pc := 17) hX dX8_signOf_17 (by decide) ?_
      exact r_iretP (pc := 21) hX hE dX8_signOf_21
  · skip
    refine r_iconst (pc := 6) hX dX8_signOf_6 ic_1 ?_
    refine r_goto (tgt := 21) (pc := 7) hX dX8_signOf_7 (by decide) ?_
    exact r_iretP (pc := 21) hX hE dX8_signOf_21
def f_Mo_side (a0 : Nat) (a1 : Int32) (a2 : Int32) (a3 : Nat) (a4 : Int32) (m : Me) : Option Int32 := rd (ln a0) a2 (m.2 a0) (fun v1 => rd (ln a0) a1 (m.2 a0) (fun v2 => rd (ln a3) (a4 + (1 : Int32)) (m.2 a3) (fun v3 => rd (ln a0) (a1 + (1 : Int32)) (m.2 a0) (fun v4 => rd (ln a0) (a2 + (1 : Int32)) (m.2 a0) (fun v5 => rd (ln a0) (a1 + (1 : Int32)) (m.2 a0) (fun v6 => rd (ln a3) a4 (m.2 a3) (fun v7 => rd (ln a0) a1 (m.2 a0) (fun v8 => cP (f_Mo_signOf (((v1 - v2) * (v3 - v4)) - ((v5 - v6) * (v7 - v8))) m) (fun v9 => some v9)))))))))
set_option maxHeartbeats 4000000 in
set_option maxRecDepth 100000 in
theorem c_Mo_side (a0 : Nat) (a1 : Int32) (a2 : Int32) (a3 : Nat) (a4 : Int32) (ha0 : kd a0 = 21) (ha3 : kd a3 = 21) (m : Me) (r : Int32) (h : f_Mo_side a0 a1 a2 a3 a4 m = some r) : Ct yX8_side cX8_side 5 (some .int) 1 (fun ad => [.ref (ad a0), .int a1, .int a2, .ref (ad a3), .int a4]) m (fun ad => (some (.int r), m)) := by
  refine mk_ct (F := f_Mo_side a0 a1 a2 a3 a4 m) (fun _ => oP m) r h (fun _ => rfl) (by decide) (fun _ => Nat.le_of_ble_eq_true rfl) ?_
  intro X hX hE
  show J X (oP m) (f_Mo_side a0 a1 a2 a3 a4 m) m 0 [(0, rX X a0), (1, .int a1), (2, .int a2), (3, rX X a3), (4, .int a4)] []
  unfold f_Mo_side
  refine r_aload_n (pc := 0) hX 0 dX8_side_0 rfl rfl ?_
  refine r_iload_n (pc := 1) hX 2 dX8_side_1 rfl rfl ?_
  refine r_lald (pc := 2) hX dX8_side_2 ha0 (fun v1 => ?_)
  refine r_aload_n (pc := 3) hX 0 dX8_side_3 rfl rfl ?_
  refine r_iload_n (pc := 4) hX 1 dX8_side_4 rfl rfl ?_
  refine r_lald (pc := 5) hX dX8_side_5 ha0 (fun v2 => ?_)
  refine r_lsub (pc := 6) hX dX8_side_6 ?_
  refine r_aload_n (pc := 7) hX 3 dX8_side_7 rfl rfl ?_
  refine r_iload (pc := 8) hX 4 dX8_side_8 rfl ?_
  refine r_iconst (pc := 10) hX dX8_side_10 ic_1 ?_
  refine r_iadd (pc := 11) hX dX8_side_11 ?_
  refine r_lald (pc := 12) hX dX8_side_12 ha3 (fun v3 => ?_)
  refine r_aload_n (pc := 13) hX 0 dX8_side_13 rfl rfl ?_
  refine r_iload_n (pc := 14) hX 1 dX8_side_14 rfl rfl ?_
  refine r_iconst (pc := 15) hX dX8_side_15 ic_1 ?_
  refine r_iadd (pc := 16) hX dX8_side_16 ?_
  refine r_lald (pc := 17) hX dX8_side_17 ha0 (fun v4 => ?_)
  refine r_lsub (pc := 18) hX dX8_side_18 ?_
  refine r_lmul (pc := 19) hX dX8_side_19 ?_
  refine r_aload_n (pc := 20) hX 0 dX8_side_20 rfl rfl ?_
  refine r_iload_n (pc := 21) hX 2 dX8_side_21 rfl rfl ?_
  refine r_iconst (pc := 22) hX dX8_side_22 ic_1 ?_
  refine r_iadd (pc := 23) hX dX8_side_23 ?_
  refine r_lald (pc := 24) hX dX8_side_24 ha0 (fun v5 => ?_)
  refine r_aload_n (pc := 25) hX 0 dX8_side_25 rfl rfl ?_
  refine r_iload_n (pc := 26) hX 1 dX8_side_26 rfl rfl ?_
  refine r_iconst (pc := 27) hX dX8_side_27 ic_1 ?_
  refine r_iadd (pc := 28) hX dX8_side_28 ?_
  refine r_lald (pc := 29) hX dX8_side_29 ha0 (fun v6 => ?_)
  refine r_lsub (pc := 30) hX dX8_side_30 ?_
  refine r_aload_n (pc := 31) hX 3 dX8_side_31 rfl rfl ?_
  refine r_iload (pc := 32) hX 4 dX8_side_32 rfl ?_
  refine r_lald (pc := 34) hX dX8_side_34 ha3 (fun v7 => ?_)
  refine r_aload_n (pc := 35) hX 0 dX8_side_35 rfl rfl ?_
  refine r_iload_n (pc := 36) hX 1 dX8_side_36 rfl rfl ?_
  refine r_lald (pc := 37) hX dX8_side_37 ha0 (fun v8 => ?_)
  refine r_lsub (pc := 38) hX dX8_side_38 ?_
  refine r_lmul (pc := 39) hX dX8_side_39 ?_
  refine r_lsub (pc := 40) hX dX8_side_40 ?_
  refine r_csP (st := []) (pc := 41) hX dX8_side_41 MI_Mo_signOf MS_Mo_signOf lkX8_143 (c_Mo_signOf (((v1 - v2) * (v3 - v4)) - ((v5 - v6) * (v7 - v8))) m) rfl rfl (Nat.le_of_ble_eq_true rfl) (by decide) (fun v9 => ?_)
  exact r_iretP (pc := 44) hX hE dX8_side_44
def f_Mo_isBetween (a0 : Int64) (a1 : Int64) (a2 : Int64) (m : Me) : Option Int32 := bd (some (1 : Int32)) (fun k26_ => bd (if (lg_cmp a0 a2) < 0 then some (0 : Int32) else if 0 < (lg_cmp a0 a1) then some (0 : Int32) else (k26_)) (fun k13_ => if (lg_cmp a0 a1) < 0 then (k13_) else if (lg_cmp a0 a2) ≤ 0 then (k26_) else (k13_)))
set_option maxHeartbeats 4000000 in
set_option maxRecDepth 100000 in
theorem c_Mo_isBetween (a0 : Int64) (a1 : Int64) (a2 : Int64)  (m : Me) (r : Int32) (h : f_Mo_isBetween a0 a1 a2 m = some r) : Ct yX8_isBetween cX8_isBetween 6 (some .boolean) 0 (fun ad => [.long a0, .long a1, .long a2]) m (fun ad => (some (.int r), m)) := by
  refine mk_ct (F := f_Mo_isBetween a0 a1 a2 m) (fun _ => oP m) r h (fun _ => rfl) (by decide) (fun _ => Nat.le_of_ble_eq_true rfl) ?_
  intro X hX hE
  show J X (oP m) (f_Mo_isBetween a0 a1 a2 m) m 0 [(0, .long a0), (2, .long a1), (4, .long a2)] []
  unfold f_Mo_isBetween
  refine r_lload_n (pc := 0) hX 0 dX8_isBetween_0 rfl rfl ?_
  refine r_lload_n (pc := 1) hX 1 dX8_isBetween_1 rfl rfl ?_
  refine r_lcmp (pc := 2) hX dX8_isBetween_2 ?_
  refine r_join (P := fun k => J X (oP m) (k) m 26 [] []) ?_ ?_
  · skip
    refine r_iconst (pc := 26) hX dX8_isBetween_26 ic_1 ?_
    refine r_goto (tgt := 31) (pc := 27) hX dX8_isBetween_27 (by decide) ?_
    exact r_zretPk (pc := 31) hX hE dX8_isBetween_31 (by decide)
  intro k26_ hk26_
  refine r_join (P := fun k => J X (oP m) (k) m 13 [(0, .long a0), (2, .long a1), (4, .long a2)] []) ?_ ?_
  · skip
    refine r_lload_n (pc := 13) hX 0 dX8_isBetween_13 rfl rfl ?_
    refine r_lload (pc := 14) hX 2 dX8_isBetween_14 rfl ?_
    refine r_lcmp (pc := 16) hX dX8_isBetween_16 ?_
    refine r_if_lt (tgt := 30) (pc := 17) hX dX8_isBetween_17 (by decide) ?_ ?_
    · skip
      refine r_iconst (pc := 30) hX dX8_isBetween_30 ic_0 ?_
      exact r_zretPk (pc := 31) hX hE dX8_isBetween_31 (by decide)
    · skip
      refine r_lload_n (pc := 20) hX 0 dX8_isBetween_20 rfl rfl ?_
      refine r_lload_n (pc := 21) hX 1 dX8_isBetween_21 rfl rfl ?_
      refine r_lcmp (pc := 22) hX dX8_isBetween_22 ?_
      refine r_if_gt (tgt := 30) (pc := 23) hX dX8_isBetween_23 (by decide) ?_ ?_
      · skip
        refine r_iconst (pc := 30) hX dX8_isBetween_30 ic_0 ?_
        exact r_zretPk (pc := 31) hX hE dX8_isBetween_31 (by decide)
      · skip
        exact r_sub [] rfl (hk26_)
  intro k13_ hk13_
  refine r_if_lt (tgt := 13) (pc := 3) hX dX8_isBetween_3 (by decide) ?_ ?_
  · skip
    exact hk13_
  · skip
    refine r_lload_n (pc := 6) hX 0 dX8_isBetween_6 rfl rfl ?_
    refine r_lload (pc := 7) hX 2 dX8_isBetween_7 rfl ?_
    refine r_lcmp (pc := 9) hX dX8_isBetween_9 ?_
    refine r_if_le (tgt := 26) (pc := 10) hX dX8_isBetween_10 (by decide) ?_ ?_
    · skip
      exact r_sub [] rfl (hk26_)
    · skip
      exact hk13_
def f_Mo_isOn (a0 : Nat) (a1 : Nat) (a2 : Int32) (m : Me) : Option Int32 := rd (ln a1) a2 (m.2 a1) (fun v1 => rd (ln a0) (4 : Int32) (m.2 a0) (fun v2 => rd (ln a0) (6 : Int32) (m.2 a0) (fun v3 => cP (f_Mo_isBetween v1 v2 v3 m) (fun v4 => if v4 = 0 then some (0 : Int32) else rd (ln a1) (a2 + (1 : Int32)) (m.2 a1) (fun v5 => rd (ln a0) (5 : Int32) (m.2 a0) (fun v6 => rd (ln a0) (7 : Int32) (m.2 a0) (fun v7 => cP (f_Mo_isBetween v5 v6 v7 m) (fun v8 => if v8 = 0 then some (0 : Int32) else some (1 : Int32)))))))))
set_option maxHeartbeats 4000000 in
set_option maxRecDepth 100000 in
theorem c_Mo_isOn (a0 : Nat) (a1 : Nat) (a2 : Int32) (ha0 : kd a0 = 21) (ha1 : kd a1 = 21) (m : Me) (r : Int32) (h : f_Mo_isOn a0 a1 a2 m = some r) : Ct yX8_isOn cX8_isOn 3 (some .boolean) 1 (fun ad => [.ref (ad a0), .ref (ad a1), .int a2]) m (fun ad => (some (.int r), m)) := by
  refine mk_ct (F := f_Mo_isOn a0 a1 a2 m) (fun _ => oP m) r h (fun _ => rfl) (by decide) (fun _ => Nat.le_of_ble_eq_true rfl) ?_
  intro X hX hE
  show J X (oP m) (f_Mo_isOn a0 a1 a2 m) m 0 [(0, rX X a0), (1, rX X a1), (2, .int a2)] []
  unfold f_Mo_isOn
  refine r_aload_n (pc := 0) hX 1 dX8_isOn_0 rfl rfl ?_
  refine r_iload_n (pc := 1) hX 2 dX8_isOn_1 rfl rfl ?_
  refine r_lald (pc := 2) hX dX8_isOn_2 ha1 (fun v1 => ?_)
  refine r_aload_n (pc := 3) hX 0 dX8_isOn_3 rfl rfl ?_
  refine r_iconst (pc := 4) hX dX8_isOn_4 ic_4 ?_
  refine r_lald (pc := 5) hX dX8_isOn_5 ha0 (fun v2 => ?_)
  refine r_aload_n (pc := 6) hX 0 dX8_isOn_6 rfl rfl ?_
  refine r_bipush (pc := 7) hX dX8_isOn_7 bp_6 ?_
  refine r_lald (pc := 9) hX dX8_isOn_9 ha0 (fun v3 => ?_)
  refine r_csP (st := []) (pc := 10) hX dX8_isOn_10 MI_Mo_isBetween MS_Mo_isBetween lkX8_147 (c_Mo_isBetween v1 v2 v3 m) rfl rfl (Nat.le_of_ble_eq_true rfl) (by decide) (fun v4 => ?_)
  refine r_if_eq (tgt := 38) (pc := 13) hX dX8_isOn_13 (by decide) ?_ ?_
  · skip
    refine r_iconst (pc := 38) hX dX8_isOn_38 ic_0 ?_
    exact r_zretPk (pc := 39) hX hE dX8_isOn_39 (by decide)
  · skip
    refine r_aload_n (pc := 16) hX 1 dX8_isOn_16 rfl rfl ?_
    refine r_iload_n (pc := 17) hX 2 dX8_isOn_17 rfl rfl ?_
    refine r_iconst (pc := 18) hX dX8_isOn_18 ic_1 ?_
    refine r_iadd (pc := 19) hX dX8_isOn_19 ?_
    refine r_lald (pc := 20) hX dX8_isOn_20 ha1 (fun v5 => ?_)
    refine r_aload_n (pc := 21) hX 0 dX8_isOn_21 rfl rfl ?_
    refine r_iconst (pc := 22) hX dX8_isOn_22 ic_5 ?_
    refine r_lald (pc := 23) hX dX8_isOn_23 ha0 (fun v6 => ?_)
    refine r_aload_n (pc := 24) hX 0 dX8_isOn_24 rfl rfl ?_
    refine r_bipush (pc := 25) hX dX8_isOn_25 bp_7 ?_
    refine r_lald (pc := 27) hX dX8_isOn_27 ha0 (fun v7 => ?_)
    refine r_csP (st := []) (pc := 28) hX dX8_isOn_28 MI_Mo_isBetween MS_Mo_isBetween lkX8_147 (c_Mo_isBetween v5 v6 v7 m) rfl rfl (Nat.le_of_ble_eq_true rfl) (by decide) (fun v8 => ?_)
    refine r_if_eq (tgt := 38) (pc := 31) hX dX8_isOn_31 (by decide) ?_ ?_
    · skip
      refine r_iconst (pc := 38) hX dX8_isOn_38 ic_0 ?_
      exact r_zretPk (pc := 39) hX hE dX8_isOn_39 (by decide)
    · skip
      refine r_iconst (pc := 34) hX dX8_isOn_34 ic_1 ?_
      refine r_goto (tgt := 39) (pc := 35) hX dX8_isOn_35 (by decide) ?_
      exact r_zretPk (pc := 39) hX hE dX8_isOn_39 (by decide)
def f_Mo_linesMeet  (m : Me) : Option Int32 := cP (f_Mo_side 211 (4 : Int32) (6 : Int32) 212 (4 : Int32) m) (fun v1 => cP (f_Mo_side 211 (4 : Int32) (6 : Int32) 212 (6 : Int32) m) (fun v2 => cP (f_Mo_side 212 (4 : Int32) (6 : Int32) 211 (4 : Int32) m) (fun v3 => cP (f_Mo_side 212 (4 : Int32) (6 : Int32) 211 (6 : Int32) m) (fun v4 => bd (bd (some (1 : Int32)) (fun k161_ => bd (bd (bd (if v4 = 0 then cP (f_Mo_isOn 212 211 (6 : Int32) m) (fun v5 => if v5 = 0 then some (0 : Int32) else (k161_)) else some (0 : Int32)) (fun k140_ => if v3 = 0 then cP (f_Mo_isOn 212 211 (4 : Int32) m) (fun v6 => if v6 = 0 then (k140_) else (k161_)) else (k140_))) (fun k121_ => if v2 = 0 then cP (f_Mo_isOn 211 212 (6 : Int32) m) (fun v7 => if v7 = 0 then (k121_) else (k161_)) else (k121_))) (fun k101_ => if v1 = 0 then cP (f_Mo_isOn 211 212 (4 : Int32) m) (fun v8 => if v8 = 0 then (k101_) else (k161_)) else (k101_)))) (fun k82_ => if 0 ≤ (v1 * v2) then (k82_) else if 0 ≤ (v3 * v4) then (k82_) else some (1 : Int32))))))
set_option maxHeartbeats 4000000 in
set_option maxRecDepth 100000 in
theorem c_Mo_linesMeet   (m : Me) (r : Int32) (h : f_Mo_linesMeet  m = some r) : Ct yX8_linesMeet cX8_linesMeet 5 (some .boolean) 2 (fun ad => [.ref (ad 200)]) m (fun ad => (some (.int r), m)) := by
  refine mk_ct (F := f_Mo_linesMeet  m) (fun _ => oP m) r h (fun _ => rfl) (by decide) (fun _ => Nat.le_of_ble_eq_true rfl) ?_
  intro X hX hE
  show J X (oP m) (f_Mo_linesMeet  m) m 0 [(0, rX X 200)] []
  unfold f_Mo_linesMeet
  refine r_aload_n (pc := 0) hX 0 dX8_linesMeet_0 rfl rfl ?_
  refine r_getR (pc := 1) hX dX8_linesMeet_1 fp8_40 k200 rfl g200_20 ?_
  refine r_iconst (pc := 4) hX dX8_linesMeet_4 ic_4 ?_
  refine r_bipush (pc := 5) hX dX8_linesMeet_5 bp_6 ?_
  refine r_aload_n (pc := 7) hX 0 dX8_linesMeet_7 rfl rfl ?_
  refine r_getR (pc := 8) hX dX8_linesMeet_8 fp8_44 k200 rfl g200_21 ?_
  refine r_iconst (pc := 11) hX dX8_linesMeet_11 ic_4 ?_
  refine r_csP (st := []) (pc := 12) hX dX8_linesMeet_12 MI_Mo_side MS_Mo_side lkX8_151 (c_Mo_side 211 (4 : Int32) (6 : Int32) 212 (4 : Int32) k211 k212 m) rfl rfl (Nat.le_of_ble_eq_true rfl) (by decide) (fun v1 => ?_)
  refine r_istore_n (L' := [(1, .int v1), (0, rX X 200)]) (pc := 15) hX dX8_linesMeet_15 rfl (by decide) rfl ?_
  refine r_aload_n (pc := 16) hX 1 dX8_linesMeet_16 rfl rfl ?_
  refine r_getR (pc := 17) hX dX8_linesMeet_17 fp8_40 k200 rfl g200_20 ?_
  refine r_iconst (pc := 20) hX dX8_linesMeet_20 ic_4 ?_
  refine r_bipush (pc := 21) hX dX8_linesMeet_21 bp_6 ?_
  refine r_aload_n (pc := 23) hX 1 dX8_linesMeet_23 rfl rfl ?_
  refine r_getR (pc := 24) hX dX8_linesMeet_24 fp8_44 k200 rfl g200_21 ?_
  refine r_bipush (pc := 27) hX dX8_linesMeet_27 bp_6 ?_
  refine r_csP (st := []) (pc := 29) hX dX8_linesMeet_29 MI_Mo_side MS_Mo_side lkX8_151 (c_Mo_side 211 (4 : Int32) (6 : Int32) 212 (6 : Int32) k211 k212 m) rfl rfl (Nat.le_of_ble_eq_true rfl) (by decide) (fun v2 => ?_)
  refine r_istore_n (L' := [(2, .int v2), (1, .int v1), (0, rX X 200)]) (pc := 32) hX dX8_linesMeet_32 rfl (by decide) rfl ?_
  refine r_aload_n (pc := 33) hX 2 dX8_linesMeet_33 rfl rfl ?_
  refine r_getR (pc := 34) hX dX8_linesMeet_34 fp8_44 k200 rfl g200_21 ?_
  refine r_iconst (pc := 37) hX dX8_linesMeet_37 ic_4 ?_
  refine r_bipush (pc := 38) hX dX8_linesMeet_38 bp_6 ?_
  refine r_aload_n (pc := 40) hX 2 dX8_linesMeet_40 rfl rfl ?_
  refine r_getR (pc := 41) hX dX8_linesMeet_41 fp8_40 k200 rfl g200_20 ?_
  refine r_iconst (pc := 44) hX dX8_linesMeet_44 ic_4 ?_
  refine r_csP (st := []) (pc := 45) hX dX8_linesMeet_45 MI_Mo_side MS_Mo_side lkX8_151 (c_Mo_side 212 (4 : Int32) (6 : Int32) 211 (4 : Int32) k212 k211 m) rfl rfl (Nat.le_of_ble_eq_true rfl) (by decide) (fun v3 => ?_)
  refine r_istore_n (L' := [(3, .int v3), (2, .int v2), (1, .int v1), (0, rX X 200)]) (pc := 48) hX dX8_linesMeet_48 rfl (by decide) rfl ?_
  refine r_aload_n (pc := 49) hX 3 dX8_linesMeet_49 rfl rfl ?_
  refine r_getR (pc := 50) hX dX8_linesMeet_50 fp8_44 k200 rfl g200_21 ?_
  refine r_iconst (pc := 53) hX dX8_linesMeet_53 ic_4 ?_
  refine r_bipush (pc := 54) hX dX8_linesMeet_54 bp_6 ?_
  refine r_aload_n (pc := 56) hX 3 dX8_linesMeet_56 rfl rfl ?_
  refine r_getR (pc := 57) hX dX8_linesMeet_57 fp8_40 k200 rfl g200_20 ?_
  refine r_bipush (pc := 60) hX dX8_linesMeet_60 bp_6 ?_
  refine r_csP (st := []) (pc := 62) hX dX8_linesMeet_62 MI_Mo_side MS_Mo_side lkX8_151 (c_Mo_side 212 (4 : Int32) (6 : Int32) 211 (6 : Int32) k212 k211 m) rfl rfl (Nat.le_of_ble_eq_true rfl) (by decide) (fun v4 => ?_)
  refine r_istore (L' := [(4, .int v4), (3, .int v3), (2, .int v2), (1, .int v1), (0, rX X 200)]) (pc := 65) hX dX8_linesMeet_65 (by decide) rfl ?_
  refine r_iload_n (pc := 67) hX 3 dX8_linesMeet_67 rfl rfl ?_
  refine r_iload_n (pc := 68) hX 2 dX8_linesMeet_68 rfl rfl ?_
  refine r_imul (pc := 69) hX dX8_linesMeet_69 ?_
  refine r_join (P := fun k => J X (oP m) (k) m 82 [(0, rX X 200), (1, .int v1), (2, .int v2), (3, .int v3), (4, .int v4)] []) ?_ ?_
  · skip
    refine r_iload_n (pc := 82) hX 1 dX8_linesMeet_82 rfl rfl ?_
    refine r_join (P := fun k => J X (oP m) (k) m 161 [] []) ?_ ?_
    · skip
      refine r_iconst (pc := 161) hX dX8_linesMeet_161 ic_1 ?_
      refine r_goto (tgt := 166) (pc := 162) hX dX8_linesMeet_162 (by decide) ?_
      exact r_zretPk (pc := 166) hX hE dX8_linesMeet_166 (by decide)
    intro k161_ hk161_
    refine r_join (P := fun k => J X (oP m) (k) m 101 [(0, rX X 200), (2, .int v2), (3, .int v3), (4, .int v4)] []) ?_ ?_
    · skip
      refine r_iload_n (pc := 101) hX 1 dX8_linesMeet_101 rfl rfl ?_
      refine r_join (P := fun k => J X (oP m) (k) m 121 [(0, rX X 200), (3, .int v3), (4, .int v4)] []) ?_ ?_
      · skip
        refine r_iload_n (pc := 121) hX 1 dX8_linesMeet_121 rfl rfl ?_
        refine r_join (P := fun k => J X (oP m) (k) m 140 [(0, rX X 200), (4, .int v4)] []) ?_ ?_
        · skip
          refine r_iload (pc := 140) hX 1 dX8_linesMeet_140 rfl ?_
          refine r_if_ne (tgt := 165) (pc := 142) hX dX8_linesMeet_142 (by decide) ?_ ?_
          · skip
            refine r_iconst (pc := 165) hX dX8_linesMeet_165 ic_0 ?_
            exact r_zretPk (pc := 166) hX hE dX8_linesMeet_166 (by decide)
          · skip
            refine r_aload_n (pc := 145) hX 0 dX8_linesMeet_145 rfl rfl ?_
            refine r_getR (pc := 146) hX dX8_linesMeet_146 fp8_44 k200 rfl g200_21 ?_
            refine r_aload_n (pc := 149) hX 0 dX8_linesMeet_149 rfl rfl ?_
            refine r_getR (pc := 150) hX dX8_linesMeet_150 fp8_40 k200 rfl g200_20 ?_
            refine r_bipush (pc := 153) hX dX8_linesMeet_153 bp_6 ?_
            refine r_csP (st := []) (pc := 155) hX dX8_linesMeet_155 MI_Mo_isOn MS_Mo_isOn lkX8_155 (c_Mo_isOn 212 211 (6 : Int32) k212 k211 m) rfl rfl (Nat.le_of_ble_eq_true rfl) (by decide) (fun v5 => ?_)
            refine r_if_eq (tgt := 165) (pc := 158) hX dX8_linesMeet_158 (by decide) ?_ ?_
            · skip
              refine r_iconst (pc := 165) hX dX8_linesMeet_165 ic_0 ?_
              exact r_zretPk (pc := 166) hX hE dX8_linesMeet_166 (by decide)
            · skip
              exact r_sub [] rfl (hk161_)
        intro k140_ hk140_
        refine r_if_ne (tgt := 140) (pc := 122) hX dX8_linesMeet_122 (by decide) ?_ ?_
        · skip
          exact r_sub [0, 2] rfl (hk140_)
        · skip
          refine r_aload_n (pc := 125) hX 0 dX8_linesMeet_125 rfl rfl ?_
          refine r_getR (pc := 126) hX dX8_linesMeet_126 fp8_44 k200 rfl g200_21 ?_
          refine r_aload_n (pc := 129) hX 0 dX8_linesMeet_129 rfl rfl ?_
          refine r_getR (pc := 130) hX dX8_linesMeet_130 fp8_40 k200 rfl g200_20 ?_
          refine r_iconst (pc := 133) hX dX8_linesMeet_133 ic_4 ?_
          refine r_csP (st := []) (pc := 134) hX dX8_linesMeet_134 MI_Mo_isOn MS_Mo_isOn lkX8_155 (c_Mo_isOn 212 211 (4 : Int32) k212 k211 m) rfl rfl (Nat.le_of_ble_eq_true rfl) (by decide) (fun v6 => ?_)
          refine r_if_ne (tgt := 161) (pc := 137) hX dX8_linesMeet_137 (by decide) ?_ ?_
          · skip
            exact r_sub [] rfl (hk161_)
          · skip
            exact r_sub [0, 2] rfl (hk140_)
      intro k121_ hk121_
      refine r_if_ne (tgt := 121) (pc := 102) hX dX8_linesMeet_102 (by decide) ?_ ?_
      · skip
        exact r_sub [0, 2, 3] rfl (hk121_)
      · skip
        refine r_aload_n (pc := 105) hX 0 dX8_linesMeet_105 rfl rfl ?_
        refine r_getR (pc := 106) hX dX8_linesMeet_106 fp8_40 k200 rfl g200_20 ?_
        refine r_aload_n (pc := 109) hX 0 dX8_linesMeet_109 rfl rfl ?_
        refine r_getR (pc := 110) hX dX8_linesMeet_110 fp8_44 k200 rfl g200_21 ?_
        refine r_bipush (pc := 113) hX dX8_linesMeet_113 bp_6 ?_
        refine r_csP (st := []) (pc := 115) hX dX8_linesMeet_115 MI_Mo_isOn MS_Mo_isOn lkX8_155 (c_Mo_isOn 211 212 (6 : Int32) k211 k212 m) rfl rfl (Nat.le_of_ble_eq_true rfl) (by decide) (fun v7 => ?_)
        refine r_if_ne (tgt := 161) (pc := 118) hX dX8_linesMeet_118 (by decide) ?_ ?_
        · skip
          exact r_sub [] rfl (hk161_)
        · skip
          exact r_sub [0, 2, 3] rfl (hk121_)
    intro k101_ hk101_
    refine r_if_ne (tgt := 101) (pc := 83) hX dX8_linesMeet_83 (by decide) ?_ ?_
    · skip
      exact r_sub [0, 2, 3, 4] rfl (hk101_)
    · skip
      refine r_aload_n (pc := 86) hX 0 dX8_linesMeet_86 rfl rfl ?_
      refine r_getR (pc := 87) hX dX8_linesMeet_87 fp8_40 k200 rfl g200_20 ?_
      refine r_aload_n (pc := 90) hX 0 dX8_linesMeet_90 rfl rfl ?_
      refine r_getR (pc := 91) hX dX8_linesMeet_91 fp8_44 k200 rfl g200_21 ?_
      refine r_iconst (pc := 94) hX dX8_linesMeet_94 ic_4 ?_
      refine r_csP (st := []) (pc := 95) hX dX8_linesMeet_95 MI_Mo_isOn MS_Mo_isOn lkX8_155 (c_Mo_isOn 211 212 (4 : Int32) k211 k212 m) rfl rfl (Nat.le_of_ble_eq_true rfl) (by decide) (fun v8 => ?_)
      refine r_if_ne (tgt := 161) (pc := 98) hX dX8_linesMeet_98 (by decide) ?_ ?_
      · skip
        exact r_sub [] rfl (hk161_)
      · skip
        exact r_sub [0, 2, 3, 4] rfl (hk101_)
  intro k82_ hk82_
  refine r_if_ge (tgt := 82) (pc := 70) hX dX8_linesMeet_70 (by decide) ?_ ?_
  · skip
    exact r_sub [4, 3, 2, 1, 0] rfl (hk82_)
  · skip
    refine r_iload_n (pc := 73) hX 1 dX8_linesMeet_73 rfl rfl ?_
    refine r_iload (pc := 74) hX 0 dX8_linesMeet_74 rfl ?_
    refine r_imul (pc := 76) hX dX8_linesMeet_76 ?_
    refine r_if_ge (tgt := 82) (pc := 77) hX dX8_linesMeet_77 (by decide) ?_ ?_
    · skip
      exact r_sub [4, 3, 2, 1, 0] rfl (hk82_)
    · skip
      refine r_iconst (pc := 80) hX dX8_linesMeet_80 ic_1 ?_
      exact r_zretPk (pc := 81) hX hE dX8_linesMeet_81 (by decide)
def f_Mo_cut (a0 : Int64) (a1 : Int64) (a2 : Int64) (a3 : Int64) (m : Me) : Option (Int32 × Me) := if (lg_cmp a1 (0 : Int64)) = 0 then if (lg_cmp a0 a2) ≤ 0 then some ((0 : Int32), m) else if 0 ≤ (lg_cmp a0 a3) then some ((0 : Int32), m) else some ((1 : Int32), m) else bd (fun (v1 : Int64) => bd (fun (v2 : Int64) => bd (fun (v3 : Int64) => bd (fun (m4 : Me) => if 0 ≤ (lg_cmp (v3 * (m4.2 200 25)) ((m4.2 200 24) * v1)) then some ((1 : Int32), m4) else bd (sl m4 200 24 v3) (fun m5 => bd (sl m5 200 25 v1) (fun m6 => some ((1 : Int32), m6)))) (fun k108_ => if (lg_cmp (v2 * (m.2 200 23)) ((m.2 200 22) * v1)) ≤ 0 then (k108_ m) else bd (sl m 200 22 v2) (fun m7 => bd (sl m7 200 23 v1) (fun m8 => (k108_ m8))))) (fun k76_ => if (lg_cmp a1 (0 : Int64)) ≤ 0 then (k76_ ((a0 - a2))) else (k76_ ((a3 - a0))))) (fun k57_ => if (lg_cmp a1 (0 : Int64)) ≤ 0 then (k57_ ((a0 - a3))) else (k57_ ((a2 - a0))))) (fun k38_ => if (lg_cmp a1 (0 : Int64)) ≤ 0 then (k38_ ((-a1))) else (k38_ a1))
set_option maxHeartbeats 4000000 in
set_option maxRecDepth 100000 in
theorem c_Mo_cut (a0 : Int64) (a1 : Int64) (a2 : Int64) (a3 : Int64)  (m : Me) (r : Int32) (m' : Me) (h : f_Mo_cut a0 a1 a2 a3 m = some (r, m')) : Ct yX8_cut cX8_cut 15 (some .boolean) 0 (fun ad => [.ref (ad 200), .long a0, .long a1, .long a2, .long a3]) m (fun ad => (some (.int r), m')) := by
  refine mk_ct (F := f_Mo_cut a0 a1 a2 a3 m) (fun _ => oI) (r, m') h (fun _ => rfl) (by decide) (fun _ => Nat.le_of_ble_eq_true rfl) ?_
  intro X hX hE
  show J X oI (f_Mo_cut a0 a1 a2 a3 m) m 0 [(0, rX X 200), (1, .long a0), (3, .long a1), (5, .long a2), (7, .long a3)] []
  unfold f_Mo_cut
  refine r_lload_n (pc := 0) hX 2 dX8_cut_0 rfl rfl ?_
  refine r_lconst (v := (0 : Int64)) (pc := 1) hX dX8_cut_1 (by decide) ?_
  refine r_lcmp (pc := 2) hX dX8_cut_2 ?_
  refine r_if_ne (tgt := 26) (pc := 3) hX dX8_cut_3 (by decide) ?_ ?_
  · skip
    refine r_lload_n (pc := 26) hX 2 dX8_cut_26 rfl rfl ?_
    refine r_lconst (v := (0 : Int64)) (pc := 27) hX dX8_cut_27 (by decide) ?_
    refine r_lcmp (pc := 28) hX dX8_cut_28 ?_
    refine r_join (P := fun k => ∀ (v1 : Int64), J X oI (k v1) m 38 [(0, rX X 200), (1, .long a0), (3, .long a1), (5, .long a2), (7, .long a3)] [.long v1]) ?_ ?_
    · intro v1
      refine r_lstore (L' := [(9, .long v1), (0, rX X 200), (1, .long a0), (3, .long a1), (5, .long a2), (7, .long a3)]) (pc := 38) hX dX8_cut_38 (by decide) rfl ?_
      refine r_lload_n (pc := 40) hX 3 dX8_cut_40 rfl rfl ?_
      refine r_lconst (v := (0 : Int64)) (pc := 41) hX dX8_cut_41 (by decide) ?_
      refine r_lcmp (pc := 42) hX dX8_cut_42 ?_
      refine r_join (P := fun k => ∀ (v2 : Int64), J X oI (k v2) m 57 [(0, rX X 200), (1, .long a0), (3, .long a1), (5, .long a2), (7, .long a3), (9, .long v1)] [.long v2]) ?_ ?_
      · intro v2
        refine r_lstore (L' := [(11, .long v2), (0, rX X 200), (1, .long a0), (3, .long a1), (5, .long a2), (7, .long a3), (9, .long v1)]) (pc := 57) hX dX8_cut_57 (by decide) rfl ?_
        refine r_lload_n (pc := 59) hX 3 dX8_cut_59 rfl rfl ?_
        refine r_lconst (v := (0 : Int64)) (pc := 60) hX dX8_cut_60 (by decide) ?_
        refine r_lcmp (pc := 61) hX dX8_cut_61 ?_
        refine r_join (P := fun k => ∀ (v3 : Int64), J X oI (k v3) m 76 [(0, rX X 200), (9, .long v1), (11, .long v2)] [.long v3]) ?_ ?_
        · intro v3
          refine r_lstore (L' := [(13, .long v3), (0, rX X 200), (9, .long v1), (11, .long v2)]) (pc := 76) hX dX8_cut_76 (by decide) rfl ?_
          refine r_lload (pc := 78) hX 3 dX8_cut_78 rfl ?_
          refine r_aload_n (pc := 80) hX 1 dX8_cut_80 rfl rfl ?_
          refine r_getL (pc := 81) hX dX8_cut_81 fp8_159 k200 rfl ?_
          refine r_lmul (pc := 84) hX dX8_cut_84 ?_
          refine r_aload_n (pc := 85) hX 1 dX8_cut_85 rfl rfl ?_
          refine r_getL (pc := 86) hX dX8_cut_86 fp8_163 k200 rfl ?_
          refine r_lload (pc := 89) hX 2 dX8_cut_89 rfl ?_
          refine r_lmul (pc := 91) hX dX8_cut_91 ?_
          refine r_lcmp (pc := 92) hX dX8_cut_92 ?_
          refine r_join (P := fun k => ∀ (m4 : Me), J X oI (k m4) m4 108 [(0, rX X 200), (9, .long v1), (13, .long v3)] []) ?_ ?_
          · intro m4
            refine r_lload (pc := 108) hX 2 dX8_cut_108 rfl ?_
            refine r_aload_n (pc := 110) hX 0 dX8_cut_110 rfl rfl ?_
            refine r_getL (pc := 111) hX dX8_cut_111 fp8_166 k200 rfl ?_
            refine r_lmul (pc := 114) hX dX8_cut_114 ?_
            refine r_aload_n (pc := 115) hX 0 dX8_cut_115 rfl rfl ?_
            refine r_getL (pc := 116) hX dX8_cut_116 fp8_169 k200 rfl ?_
            refine r_lload (pc := 119) hX 1 dX8_cut_119 rfl ?_
            refine r_lmul (pc := 121) hX dX8_cut_121 ?_
            refine r_lcmp (pc := 122) hX dX8_cut_122 ?_
            refine r_if_ge (tgt := 138) (pc := 123) hX dX8_cut_123 (by decide) ?_ ?_
            · skip
              refine r_iconst (pc := 138) hX dX8_cut_138 ic_1 ?_
              exact r_zretIk (pc := 139) hX hE dX8_cut_139 (by decide)
            · skip
              refine r_aload_n (pc := 126) hX 0 dX8_cut_126 rfl rfl ?_
              refine r_lload (pc := 127) hX 2 dX8_cut_127 rfl ?_
              refine r_putL (pc := 129) hX dX8_cut_129 fp8_169 k200 (fun m5 => ?_)
              refine r_aload_n (pc := 132) hX 0 dX8_cut_132 rfl rfl ?_
              refine r_lload (pc := 133) hX 1 dX8_cut_133 rfl ?_
              refine r_putL (pc := 135) hX dX8_cut_135 fp8_166 k200 (fun m6 => ?_)
              refine r_iconst (pc := 138) hX dX8_cut_138 ic_1 ?_
              exact r_zretIk (pc := 139) hX hE dX8_cut_139 (by decide)
          intro k108_ hk108_
          refine r_if_le (tgt := 108) (pc := 93) hX dX8_cut_93 (by decide) ?_ ?_
          · skip
            exact r_sub [1, 2, 0] rfl (hk108_ m)
          · skip
            refine r_aload_n (pc := 96) hX 1 dX8_cut_96 rfl rfl ?_
            refine r_lload (pc := 97) hX 3 dX8_cut_97 rfl ?_
            refine r_putL (pc := 99) hX dX8_cut_99 fp8_163 k200 (fun m7 => ?_)
            refine r_aload_n (pc := 102) hX 1 dX8_cut_102 rfl rfl ?_
            refine r_lload (pc := 103) hX 2 dX8_cut_103 rfl ?_
            refine r_putL (pc := 105) hX dX8_cut_105 fp8_159 k200 (fun m8 => ?_)
            exact r_sub [1, 2, 0] rfl (hk108_ m8)
        intro k76_ hk76_
        refine r_if_le (tgt := 72) (pc := 62) hX dX8_cut_62 (by decide) ?_ ?_
        · skip
          refine r_lload_n (pc := 72) hX 2 dX8_cut_72 rfl rfl ?_
          refine r_lload (pc := 73) hX 4 dX8_cut_73 rfl ?_
          refine r_lsub (pc := 75) hX dX8_cut_75 ?_
          exact r_sub [1, 6, 0] rfl (hk76_ ((a0 - a2)))
        · skip
          refine r_lload (pc := 65) hX 5 dX8_cut_65 rfl ?_
          refine r_lload_n (pc := 67) hX 2 dX8_cut_67 rfl rfl ?_
          refine r_lsub (pc := 68) hX dX8_cut_68 ?_
          refine r_goto (tgt := 76) (pc := 69) hX dX8_cut_69 (by decide) ?_
          exact r_sub [1, 6, 0] rfl (hk76_ ((a3 - a0)))
      intro k57_ hk57_
      refine r_if_le (tgt := 53) (pc := 43) hX dX8_cut_43 (by decide) ?_ ?_
      · skip
        refine r_lload_n (pc := 53) hX 2 dX8_cut_53 rfl rfl ?_
        refine r_lload (pc := 54) hX 5 dX8_cut_54 rfl ?_
        refine r_lsub (pc := 56) hX dX8_cut_56 ?_
        exact r_sub [1, 2, 3, 4, 5, 0] rfl (hk57_ ((a0 - a3)))
      · skip
        refine r_lload (pc := 46) hX 4 dX8_cut_46 rfl ?_
        refine r_lload_n (pc := 48) hX 2 dX8_cut_48 rfl rfl ?_
        refine r_lsub (pc := 49) hX dX8_cut_49 ?_
        refine r_goto (tgt := 57) (pc := 50) hX dX8_cut_50 (by decide) ?_
        exact r_sub [1, 2, 3, 4, 5, 0] rfl (hk57_ ((a2 - a0)))
    intro k38_ hk38_
    refine r_if_le (tgt := 36) (pc := 29) hX dX8_cut_29 (by decide) ?_ ?_
    · skip
      refine r_lload_n (pc := 36) hX 2 dX8_cut_36 rfl rfl ?_
      refine r_lneg (pc := 37) hX dX8_cut_37 ?_
      exact hk38_ ((-a1))
    · skip
      refine r_lload_n (pc := 32) hX 2 dX8_cut_32 rfl rfl ?_
      refine r_goto (tgt := 38) (pc := 33) hX dX8_cut_33 (by decide) ?_
      exact hk38_ a1
  · skip
    refine r_lload_n (pc := 6) hX 1 dX8_cut_6 rfl rfl ?_
    refine r_lload (pc := 7) hX 3 dX8_cut_7 rfl ?_
    refine r_lcmp (pc := 9) hX dX8_cut_9 ?_
    refine r_if_le (tgt := 24) (pc := 10) hX dX8_cut_10 (by decide) ?_ ?_
    · skip
      refine r_iconst (pc := 24) hX dX8_cut_24 ic_0 ?_
      exact r_zretIk (pc := 25) hX hE dX8_cut_25 (by decide)
    · skip
      refine r_lload_n (pc := 13) hX 1 dX8_cut_13 rfl rfl ?_
      refine r_lload (pc := 14) hX 4 dX8_cut_14 rfl ?_
      refine r_lcmp (pc := 16) hX dX8_cut_16 ?_
      refine r_if_ge (tgt := 24) (pc := 17) hX dX8_cut_17 (by decide) ?_ ?_
      · skip
        refine r_iconst (pc := 24) hX dX8_cut_24 ic_0 ?_
        exact r_zretIk (pc := 25) hX hE dX8_cut_25 (by decide)
      · skip
        refine r_iconst (pc := 20) hX dX8_cut_20 ic_1 ?_
        refine r_goto (tgt := 25) (pc := 21) hX dX8_cut_21 (by decide) ?_
        exact r_zretIk (pc := 25) hX hE dX8_cut_25 (by decide)
def f_Mo_crosses (a0 : Nat) (a1 : Nat) (m : Me) : Option (Int32 × Me) := bd (sl m 200 22 (-1 : Int64)) (fun m1 => bd (sl m1 200 23 (1 : Int64)) (fun m2 => bd (sl m2 200 24 (2 : Int64)) (fun m3 => bd (sl m3 200 25 (1 : Int64)) (fun m4 => rd (ln a0) (4 : Int32) (m4.2 a0) (fun v5 => rd (ln a0) (6 : Int32) (m4.2 a0) (fun v6 => rd (ln a0) (4 : Int32) (m4.2 a0) (fun v7 => rd (ln a1) (0 : Int32) (m4.2 a1) (fun v8 => rd (ln a1) (2 : Int32) (m4.2 a1) (fun v9 => cI (f_Mo_cut v5 (v6 - v7) v8 v9 m4) (fun v10 m11 => bd (fun (v12 : Int32) (m13 : Me) => if v12 = 0 then some ((0 : Int32), m13) else if 0 ≤ (lg_cmp ((m13.2 200 22) * (m13.2 200 25)) ((m13.2 200 24) * (m13.2 200 23))) then some ((0 : Int32), m13) else if 0 ≤ (lg_cmp (m13.2 200 22) (m13.2 200 23)) then some ((0 : Int32), m13) else if (lg_cmp (m13.2 200 24) (0 : Int64)) ≤ 0 then some ((0 : Int32), m13) else some ((1 : Int32), m13)) (fun k77_ => bd (fun (m14 : Me) => (k77_ (0 : Int32) m14)) (fun k76_ => if v10 = 0 then (k76_ m11) else rd (ln a0) (5 : Int32) (m11.2 a0) (fun v15 => rd (ln a0) (7 : Int32) (m11.2 a0) (fun v16 => rd (ln a0) (5 : Int32) (m11.2 a0) (fun v17 => rd (ln a1) (1 : Int32) (m11.2 a1) (fun v18 => rd (ln a1) (3 : Int32) (m11.2 a1) (fun v19 => cI (f_Mo_cut v15 (v16 - v17) v18 v19 m11) (fun v20 m21 => if v20 = 0 then (k76_ m21) else (k77_ (1 : Int32) m21)))))))))))))))))))
set_option maxHeartbeats 4000000 in
set_option maxRecDepth 100000 in
theorem c_Mo_crosses (a0 : Nat) (a1 : Nat) (ha0 : kd a0 = 21) (ha1 : kd a1 = 21) (m : Me) (r : Int32) (m' : Me) (h : f_Mo_crosses a0 a1 m = some (r, m')) : Ct yX8_crosses cX8_crosses 4 (some .boolean) 1 (fun ad => [.ref (ad 200), .ref (ad a0), .ref (ad a1)]) m (fun ad => (some (.int r), m')) := by
  refine mk_ct (F := f_Mo_crosses a0 a1 m) (fun _ => oI) (r, m') h (fun _ => rfl) (by decide) (fun _ => Nat.le_of_ble_eq_true rfl) ?_
  intro X hX hE
  show J X oI (f_Mo_crosses a0 a1 m) m 0 [(0, rX X 200), (1, rX X a0), (2, rX X a1)] []
  unfold f_Mo_crosses
  refine r_aload_n (pc := 0) hX 0 dX8_crosses_0 rfl rfl ?_
  refine r_ldc2 (pc := 1) hX dX8_crosses_1 cnX8_172 ?_
  refine r_putL (pc := 4) hX dX8_crosses_4 fp8_163 k200 (fun m1 => ?_)
  refine r_aload_n (pc := 7) hX 0 dX8_crosses_7 rfl rfl ?_
  refine r_lconst (v := (1 : Int64)) (pc := 8) hX dX8_crosses_8 (by decide) ?_
  refine r_putL (pc := 9) hX dX8_crosses_9 fp8_159 k200 (fun m2 => ?_)
  refine r_aload_n (pc := 12) hX 0 dX8_crosses_12 rfl rfl ?_
  refine r_ldc2 (pc := 13) hX dX8_crosses_13 cnX8_141 ?_
  refine r_putL (pc := 16) hX dX8_crosses_16 fp8_169 k200 (fun m3 => ?_)
  refine r_aload_n (pc := 19) hX 0 dX8_crosses_19 rfl rfl ?_
  refine r_lconst (v := (1 : Int64)) (pc := 20) hX dX8_crosses_20 (by decide) ?_
  refine r_putL (pc := 21) hX dX8_crosses_21 fp8_166 k200 (fun m4 => ?_)
  refine r_aload_n (pc := 24) hX 0 dX8_crosses_24 rfl rfl ?_
  refine r_aload_n (pc := 25) hX 1 dX8_crosses_25 rfl rfl ?_
  refine r_iconst (pc := 26) hX dX8_crosses_26 ic_4 ?_
  refine r_lald (pc := 27) hX dX8_crosses_27 ha0 (fun v5 => ?_)
  refine r_aload_n (pc := 28) hX 1 dX8_crosses_28 rfl rfl ?_
  refine r_bipush (pc := 29) hX dX8_crosses_29 bp_6 ?_
  refine r_lald (pc := 31) hX dX8_crosses_31 ha0 (fun v6 => ?_)
  refine r_aload_n (pc := 32) hX 1 dX8_crosses_32 rfl rfl ?_
  refine r_iconst (pc := 33) hX dX8_crosses_33 ic_4 ?_
  refine r_lald (pc := 34) hX dX8_crosses_34 ha0 (fun v7 => ?_)
  refine r_lsub (pc := 35) hX dX8_crosses_35 ?_
  refine r_aload_n (pc := 36) hX 2 dX8_crosses_36 rfl rfl ?_
  refine r_iconst (pc := 37) hX dX8_crosses_37 ic_0 ?_
  refine r_lald (pc := 38) hX dX8_crosses_38 ha1 (fun v8 => ?_)
  refine r_aload_n (pc := 39) hX 2 dX8_crosses_39 rfl rfl ?_
  refine r_iconst (pc := 40) hX dX8_crosses_40 ic_2 ?_
  refine r_lald (pc := 41) hX dX8_crosses_41 ha1 (fun v9 => ?_)
  refine r_cvI (st := []) (pc := 42) hX dX8_crosses_42 MI_Mo_cut MV_Mo_cut lkX8_174 k200 (c_Mo_cut v5 (v6 - v7) v8 v9 m4) rfl rfl (Nat.le_of_ble_eq_true rfl) (by decide) (fun v10 m11 => ?_)
  refine r_join (P := fun k => ∀ (v12 : Int32) (m13 : Me), J X oI (k v12 m13) m13 77 [(0, rX X 200)] [.int v12]) ?_ ?_
  · intro v12 m13
    refine r_istore_n (L' := [(3, .int v12), (0, rX X 200)]) (pc := 77) hX dX8_crosses_77 rfl (by decide) rfl ?_
    refine r_iload_n (pc := 78) hX 0 dX8_crosses_78 rfl rfl ?_
    refine r_if_eq (tgt := 129) (pc := 79) hX dX8_crosses_79 (by decide) ?_ ?_
    · skip
      refine r_iconst (pc := 129) hX dX8_crosses_129 ic_0 ?_
      exact r_zretIk (pc := 130) hX hE dX8_crosses_130 (by decide)
    · skip
      refine r_aload_n (pc := 82) hX 1 dX8_crosses_82 rfl rfl ?_
      refine r_getL (pc := 83) hX dX8_crosses_83 fp8_163 k200 rfl ?_
      refine r_aload_n (pc := 86) hX 1 dX8_crosses_86 rfl rfl ?_
      refine r_getL (pc := 87) hX dX8_crosses_87 fp8_166 k200 rfl ?_
      refine r_lmul (pc := 90) hX dX8_crosses_90 ?_
      refine r_aload_n (pc := 91) hX 1 dX8_crosses_91 rfl rfl ?_
      refine r_getL (pc := 92) hX dX8_crosses_92 fp8_169 k200 rfl ?_
      refine r_aload_n (pc := 95) hX 1 dX8_crosses_95 rfl rfl ?_
      refine r_getL (pc := 96) hX dX8_crosses_96 fp8_159 k200 rfl ?_
      refine r_lmul (pc := 99) hX dX8_crosses_99 ?_
      refine r_lcmp (pc := 100) hX dX8_crosses_100 ?_
      refine r_if_ge (tgt := 129) (pc := 101) hX dX8_crosses_101 (by decide) ?_ ?_
      · skip
        refine r_iconst (pc := 129) hX dX8_crosses_129 ic_0 ?_
        exact r_zretIk (pc := 130) hX hE dX8_crosses_130 (by decide)
      · skip
        refine r_aload_n (pc := 104) hX 1 dX8_crosses_104 rfl rfl ?_
        refine r_getL (pc := 105) hX dX8_crosses_105 fp8_163 k200 rfl ?_
        refine r_aload_n (pc := 108) hX 1 dX8_crosses_108 rfl rfl ?_
        refine r_getL (pc := 109) hX dX8_crosses_109 fp8_159 k200 rfl ?_
        refine r_lcmp (pc := 112) hX dX8_crosses_112 ?_
        refine r_if_ge (tgt := 129) (pc := 113) hX dX8_crosses_113 (by decide) ?_ ?_
        · skip
          refine r_iconst (pc := 129) hX dX8_crosses_129 ic_0 ?_
          exact r_zretIk (pc := 130) hX hE dX8_crosses_130 (by decide)
        · skip
          refine r_aload_n (pc := 116) hX 1 dX8_crosses_116 rfl rfl ?_
          refine r_getL (pc := 117) hX dX8_crosses_117 fp8_169 k200 rfl ?_
          refine r_lconst (v := (0 : Int64)) (pc := 120) hX dX8_crosses_120 (by decide) ?_
          refine r_lcmp (pc := 121) hX dX8_crosses_121 ?_
          refine r_if_le (tgt := 129) (pc := 122) hX dX8_crosses_122 (by decide) ?_ ?_
          · skip
            refine r_iconst (pc := 129) hX dX8_crosses_129 ic_0 ?_
            exact r_zretIk (pc := 130) hX hE dX8_crosses_130 (by decide)
          · skip
            refine r_iconst (pc := 125) hX dX8_crosses_125 ic_1 ?_
            refine r_goto (tgt := 130) (pc := 126) hX dX8_crosses_126 (by decide) ?_
            exact r_zretIk (pc := 130) hX hE dX8_crosses_130 (by decide)
  intro k77_ hk77_
  refine r_join (P := fun k => ∀ (m14 : Me), J X oI (k m14) m14 76 [(0, rX X 200)] []) ?_ ?_
  · intro m14
    refine r_iconst (pc := 76) hX dX8_crosses_76 ic_0 ?_
    exact hk77_ (0 : Int32) m14
  intro k76_ hk76_
  refine r_if_eq (tgt := 76) (pc := 45) hX dX8_crosses_45 (by decide) ?_ ?_
  · skip
    exact r_sub [0] rfl (hk76_ m11)
  · skip
    refine r_aload_n (pc := 48) hX 0 dX8_crosses_48 rfl rfl ?_
    refine r_aload_n (pc := 49) hX 1 dX8_crosses_49 rfl rfl ?_
    refine r_iconst (pc := 50) hX dX8_crosses_50 ic_5 ?_
    refine r_lald (pc := 51) hX dX8_crosses_51 ha0 (fun v15 => ?_)
    refine r_aload_n (pc := 52) hX 1 dX8_crosses_52 rfl rfl ?_
    refine r_bipush (pc := 53) hX dX8_crosses_53 bp_7 ?_
    refine r_lald (pc := 55) hX dX8_crosses_55 ha0 (fun v16 => ?_)
    refine r_aload_n (pc := 56) hX 1 dX8_crosses_56 rfl rfl ?_
    refine r_iconst (pc := 57) hX dX8_crosses_57 ic_5 ?_
    refine r_lald (pc := 58) hX dX8_crosses_58 ha0 (fun v17 => ?_)
    refine r_lsub (pc := 59) hX dX8_crosses_59 ?_
    refine r_aload_n (pc := 60) hX 2 dX8_crosses_60 rfl rfl ?_
    refine r_iconst (pc := 61) hX dX8_crosses_61 ic_1 ?_
    refine r_lald (pc := 62) hX dX8_crosses_62 ha1 (fun v18 => ?_)
    refine r_aload_n (pc := 63) hX 2 dX8_crosses_63 rfl rfl ?_
    refine r_iconst (pc := 64) hX dX8_crosses_64 ic_3 ?_
    refine r_lald (pc := 65) hX dX8_crosses_65 ha1 (fun v19 => ?_)
    refine r_cvI (st := []) (pc := 66) hX dX8_crosses_66 MI_Mo_cut MV_Mo_cut lkX8_174 k200 (c_Mo_cut v15 (v16 - v17) v18 v19 m11) rfl rfl (Nat.le_of_ble_eq_true rfl) (by decide) (fun v20 m21 => ?_)
    refine r_if_eq (tgt := 76) (pc := 69) hX dX8_crosses_69 (by decide) ?_ ?_
    · skip
      exact r_sub [0] rfl (hk76_ m21)
    · skip
      refine r_iconst (pc := 72) hX dX8_crosses_72 ic_1 ?_
      refine r_goto (tgt := 77) (pc := 73) hX dX8_crosses_73 (by decide) ?_
      exact r_sub [0] rfl (hk77_ (1 : Int32) m21)
def f_Mo_doClash (a0 : Int32) (a1 : Int32) (a2 : Int32) (a3 : Int32) (a4 : Int32) (m : Me) : Option (Int32 × Me) := cP (f_Mo_take 211 a0 a1 a4 m) (fun m1 => cP (f_Mo_take 212 a2 a3 a4 m1) (fun m2 => rd (ln 211) (0 : Int32) (m2.2 211) (fun v3 => rd (ln 212) (2 : Int32) (m2.2 212) (fun v4 => bd (cP (f_Mo_isLed a0 a1 m2) (fun v5 => cP (f_Mo_isLed a2 a3 m2) (fun v6 => bd (fun (m7 : Me) => some ((1 : Int32), m7)) (fun k165_ => bd (bd (fun (m8 : Me) => if v6 = 0 then some ((0 : Int32), m8) else cI (f_Mo_crosses 212 211 m8) (fun v9 m10 => if v9 = 0 then some ((0 : Int32), m10) else (k165_ m10))) (fun k145_ => if v5 = 0 then (k145_ m2) else cI (f_Mo_crosses 211 212 m2) (fun v11 m12 => if v11 = 0 then (k145_ m12) else (k165_ m12)))) (fun k125_ => if v5 = 0 then (k125_) else if v6 = 0 then (k125_) else cP (f_Mo_linesMeet m2) (fun v13 => if v13 = 0 then (k125_) else (k165_ m2))))))) (fun k91_ => if 0 ≤ (lg_cmp v3 v4) then (k91_) else rd (ln 212) (0 : Int32) (m2.2 212) (fun v14 => rd (ln 211) (2 : Int32) (m2.2 211) (fun v15 => if 0 ≤ (lg_cmp v14 v15) then (k91_) else rd (ln 211) (1 : Int32) (m2.2 211) (fun v16 => rd (ln 212) (3 : Int32) (m2.2 212) (fun v17 => if 0 ≤ (lg_cmp v16 v17) then (k91_) else rd (ln 212) (1 : Int32) (m2.2 212) (fun v18 => rd (ln 211) (3 : Int32) (m2.2 211) (fun v19 => if 0 ≤ (lg_cmp v18 v19) then (k91_) else some ((1 : Int32), m2))))))))))))
set_option maxHeartbeats 4000000 in
set_option maxRecDepth 100000 in
theorem c_Mo_doClash (a0 : Int32) (a1 : Int32) (a2 : Int32) (a3 : Int32) (a4 : Int32)  (m : Me) (r : Int32) (m' : Me) (h : f_Mo_doClash a0 a1 a2 a3 a4 m = some (r, m')) : Ct yX8_doClash cX8_doClash 8 (some .boolean) 3 (fun ad => [.ref (ad 200), .int a0, .int a1, .int a2, .int a3, .int a4]) m (fun ad => (some (.int r), m')) := by
  refine mk_ct (F := f_Mo_doClash a0 a1 a2 a3 a4 m) (fun _ => oI) (r, m') h (fun _ => rfl) (by decide) (fun _ => Nat.le_of_ble_eq_true rfl) ?_
  intro X hX hE
  show J X oI (f_Mo_doClash a0 a1 a2 a3 a4 m) m 0 [(0, rX X 200), (1, .int a0), (2, .int a1), (3, .int a2), (4, .int a3), (5, .int a4)] []
  unfold f_Mo_doClash
  refine r_aload_n (pc := 0) hX 0 dX8_doClash_0 rfl rfl ?_
  refine r_aload_n (pc := 1) hX 0 dX8_doClash_1 rfl rfl ?_
  refine r_getR (pc := 2) hX dX8_doClash_2 fp8_40 k200 rfl g200_20 ?_
  refine r_iload_n (pc := 5) hX 1 dX8_doClash_5 rfl rfl ?_
  refine r_iload_n (pc := 6) hX 2 dX8_doClash_6 rfl rfl ?_
  refine r_iload (pc := 7) hX 5 dX8_doClash_7 rfl ?_
  refine r_cvV (st := []) (pc := 9) hX dX8_doClash_9 MI_Mo_take MV_Mo_take lkX8_178 k200 (c_Mo_take 211 a0 a1 a4 k211 m) rfl rfl (Nat.le_of_ble_eq_true rfl) (by decide) (fun m1 => ?_)
  refine r_aload_n (pc := 12) hX 0 dX8_doClash_12 rfl rfl ?_
  refine r_aload_n (pc := 13) hX 0 dX8_doClash_13 rfl rfl ?_
  refine r_getR (pc := 14) hX dX8_doClash_14 fp8_44 k200 rfl g200_21 ?_
  refine r_iload_n (pc := 17) hX 3 dX8_doClash_17 rfl rfl ?_
  refine r_iload (pc := 18) hX 4 dX8_doClash_18 rfl ?_
  refine r_iload (pc := 20) hX 5 dX8_doClash_20 rfl ?_
  refine r_cvV (st := []) (pc := 22) hX dX8_doClash_22 MI_Mo_take MV_Mo_take lkX8_178 k200 (c_Mo_take 212 a2 a3 a4 k212 m1) rfl rfl (Nat.le_of_ble_eq_true rfl) (by decide) (fun m2 => ?_)
  refine r_aload_n (pc := 25) hX 0 dX8_doClash_25 rfl rfl ?_
  refine r_getR (pc := 26) hX dX8_doClash_26 fp8_40 k200 rfl g200_20 ?_
  refine r_iconst (pc := 29) hX dX8_doClash_29 ic_0 ?_
  refine r_lald (pc := 30) hX dX8_doClash_30 k211 (fun v3 => ?_)
  refine r_aload_n (pc := 31) hX 0 dX8_doClash_31 rfl rfl ?_
  refine r_getR (pc := 32) hX dX8_doClash_32 fp8_44 k200 rfl g200_21 ?_
  refine r_iconst (pc := 35) hX dX8_doClash_35 ic_2 ?_
  refine r_lald (pc := 36) hX dX8_doClash_36 k212 (fun v4 => ?_)
  refine r_lcmp (pc := 37) hX dX8_doClash_37 ?_
  refine r_join (P := fun k => J X oI (k) m2 91 [(0, rX X 200), (1, .int a0), (2, .int a1), (3, .int a2), (4, .int a3)] []) ?_ ?_
  · skip
    refine r_aload_n (pc := 91) hX 0 dX8_doClash_91 rfl rfl ?_
    refine r_iload_n (pc := 92) hX 1 dX8_doClash_92 rfl rfl ?_
    refine r_iload_n (pc := 93) hX 2 dX8_doClash_93 rfl rfl ?_
    refine r_cvP (st := []) (pc := 94) hX dX8_doClash_94 MI_Mo_isLed MV_Mo_isLed lkX8_119 k200 (c_Mo_isLed a0 a1 m2) rfl rfl (Nat.le_of_ble_eq_true rfl) (by decide) (fun v5 => ?_)
    refine r_istore (L' := [(6, .int v5), (0, rX X 200), (1, .int a0), (2, .int a1), (3, .int a2), (4, .int a3)]) (pc := 97) hX dX8_doClash_97 (by decide) rfl ?_
    refine r_aload_n (pc := 99) hX 1 dX8_doClash_99 rfl rfl ?_
    refine r_iload_n (pc := 100) hX 4 dX8_doClash_100 rfl rfl ?_
    refine r_iload (pc := 101) hX 5 dX8_doClash_101 rfl ?_
    refine r_cvP (st := []) (pc := 103) hX dX8_doClash_103 MI_Mo_isLed MV_Mo_isLed lkX8_119 k200 (c_Mo_isLed a2 a3 m2) rfl rfl (Nat.le_of_ble_eq_true rfl) (by decide) (fun v6 => ?_)
    refine r_istore (L' := [(7, .int v6), (6, .int v5), (0, rX X 200), (1, .int a0), (2, .int a1), (3, .int a2), (4, .int a3)]) (pc := 106) hX dX8_doClash_106 (by decide) rfl ?_
    refine r_iload (pc := 108) hX 1 dX8_doClash_108 rfl ?_
    refine r_join (P := fun k => ∀ (m7 : Me), J X oI (k m7) m7 165 [] []) ?_ ?_
    · intro m7
      refine r_iconst (pc := 165) hX dX8_doClash_165 ic_1 ?_
      refine r_goto (tgt := 170) (pc := 166) hX dX8_doClash_166 (by decide) ?_
      exact r_zretIk (pc := 170) hX hE dX8_doClash_170 (by decide)
    intro k165_ hk165_
    refine r_join (P := fun k => J X oI (k) m2 125 [(0, rX X 200), (6, .int v5), (7, .int v6)] []) ?_ ?_
    · skip
      refine r_iload (pc := 125) hX 1 dX8_doClash_125 rfl ?_
      refine r_join (P := fun k => ∀ (m8 : Me), J X oI (k m8) m8 145 [(0, rX X 200), (7, .int v6)] []) ?_ ?_
      · intro m8
        refine r_iload (pc := 145) hX 1 dX8_doClash_145 rfl ?_
        refine r_if_eq (tgt := 169) (pc := 147) hX dX8_doClash_147 (by decide) ?_ ?_
        · skip
          refine r_iconst (pc := 169) hX dX8_doClash_169 ic_0 ?_
          exact r_zretIk (pc := 170) hX hE dX8_doClash_170 (by decide)
        · skip
          refine r_aload_n (pc := 150) hX 0 dX8_doClash_150 rfl rfl ?_
          refine r_aload_n (pc := 151) hX 0 dX8_doClash_151 rfl rfl ?_
          refine r_getR (pc := 152) hX dX8_doClash_152 fp8_44 k200 rfl g200_21 ?_
          refine r_aload_n (pc := 155) hX 0 dX8_doClash_155 rfl rfl ?_
          refine r_getR (pc := 156) hX dX8_doClash_156 fp8_40 k200 rfl g200_20 ?_
          refine r_cvI (st := []) (pc := 159) hX dX8_doClash_159 MI_Mo_crosses MV_Mo_crosses lkX8_186 k200 (c_Mo_crosses 212 211 k212 k211 m8) rfl rfl (Nat.le_of_ble_eq_true rfl) (by decide) (fun v9 m10 => ?_)
          refine r_if_eq (tgt := 169) (pc := 162) hX dX8_doClash_162 (by decide) ?_ ?_
          · skip
            refine r_iconst (pc := 169) hX dX8_doClash_169 ic_0 ?_
            exact r_zretIk (pc := 170) hX hE dX8_doClash_170 (by decide)
          · skip
            exact r_sub [] rfl (hk165_ m10)
      intro k145_ hk145_
      refine r_if_eq (tgt := 145) (pc := 127) hX dX8_doClash_127 (by decide) ?_ ?_
      · skip
        exact r_sub [0, 2] rfl (hk145_ m2)
      · skip
        refine r_aload_n (pc := 130) hX 0 dX8_doClash_130 rfl rfl ?_
        refine r_aload_n (pc := 131) hX 0 dX8_doClash_131 rfl rfl ?_
        refine r_getR (pc := 132) hX dX8_doClash_132 fp8_40 k200 rfl g200_20 ?_
        refine r_aload_n (pc := 135) hX 0 dX8_doClash_135 rfl rfl ?_
        refine r_getR (pc := 136) hX dX8_doClash_136 fp8_44 k200 rfl g200_21 ?_
        refine r_cvI (st := []) (pc := 139) hX dX8_doClash_139 MI_Mo_crosses MV_Mo_crosses lkX8_186 k200 (c_Mo_crosses 211 212 k211 k212 m2) rfl rfl (Nat.le_of_ble_eq_true rfl) (by decide) (fun v11 m12 => ?_)
        refine r_if_ne (tgt := 165) (pc := 142) hX dX8_doClash_142 (by decide) ?_ ?_
        · skip
          exact r_sub [] rfl (hk165_ m12)
        · skip
          exact r_sub [0, 2] rfl (hk145_ m12)
    intro k125_ hk125_
    refine r_if_eq (tgt := 125) (pc := 110) hX dX8_doClash_110 (by decide) ?_ ?_
    · skip
      exact r_sub [2, 1, 0] rfl (hk125_)
    · skip
      refine r_iload (pc := 113) hX 0 dX8_doClash_113 rfl ?_
      refine r_if_eq (tgt := 125) (pc := 115) hX dX8_doClash_115 (by decide) ?_ ?_
      · skip
        exact r_sub [2, 1, 0] rfl (hk125_)
      · skip
        refine r_aload_n (pc := 118) hX 2 dX8_doClash_118 rfl rfl ?_
        refine r_cvP (st := []) (pc := 119) hX dX8_doClash_119 MI_Mo_linesMeet MV_Mo_linesMeet lkX8_182 k200 (c_Mo_linesMeet m2) rfl rfl (Nat.le_of_ble_eq_true rfl) (by decide) (fun v13 => ?_)
        refine r_if_ne (tgt := 165) (pc := 122) hX dX8_doClash_122 (by decide) ?_ ?_
        · skip
          exact r_sub [] rfl (hk165_ m2)
        · skip
          exact r_sub [2, 1, 0] rfl (hk125_)
  intro k91_ hk91_
  refine r_if_ge (tgt := 91) (pc := 38) hX dX8_doClash_38 (by decide) ?_ ?_
  · skip
    exact r_sub [0, 1, 2, 3, 4] rfl (hk91_)
  · skip
    refine r_aload_n (pc := 41) hX 0 dX8_doClash_41 rfl rfl ?_
    refine r_getR (pc := 42) hX dX8_doClash_42 fp8_44 k200 rfl g200_21 ?_
    refine r_iconst (pc := 45) hX dX8_doClash_45 ic_0 ?_
    refine r_lald (pc := 46) hX dX8_doClash_46 k212 (fun v14 => ?_)
    refine r_aload_n (pc := 47) hX 0 dX8_doClash_47 rfl rfl ?_
    refine r_getR (pc := 48) hX dX8_doClash_48 fp8_40 k200 rfl g200_20 ?_
    refine r_iconst (pc := 51) hX dX8_doClash_51 ic_2 ?_
    refine r_lald (pc := 52) hX dX8_doClash_52 k211 (fun v15 => ?_)
    refine r_lcmp (pc := 53) hX dX8_doClash_53 ?_
    refine r_if_ge (tgt := 91) (pc := 54) hX dX8_doClash_54 (by decide) ?_ ?_
    · skip
      exact r_sub [0, 1, 2, 3, 4] rfl (hk91_)
    · skip
      refine r_aload_n (pc := 57) hX 0 dX8_doClash_57 rfl rfl ?_
      refine r_getR (pc := 58) hX dX8_doClash_58 fp8_40 k200 rfl g200_20 ?_
      refine r_iconst (pc := 61) hX dX8_doClash_61 ic_1 ?_
      refine r_lald (pc := 62) hX dX8_doClash_62 k211 (fun v16 => ?_)
      refine r_aload_n (pc := 63) hX 0 dX8_doClash_63 rfl rfl ?_
      refine r_getR (pc := 64) hX dX8_doClash_64 fp8_44 k200 rfl g200_21 ?_
      refine r_iconst (pc := 67) hX dX8_doClash_67 ic_3 ?_
      refine r_lald (pc := 68) hX dX8_doClash_68 k212 (fun v17 => ?_)
      refine r_lcmp (pc := 69) hX dX8_doClash_69 ?_
      refine r_if_ge (tgt := 91) (pc := 70) hX dX8_doClash_70 (by decide) ?_ ?_
      · skip
        exact r_sub [0, 1, 2, 3, 4] rfl (hk91_)
      · skip
        refine r_aload_n (pc := 73) hX 0 dX8_doClash_73 rfl rfl ?_
        refine r_getR (pc := 74) hX dX8_doClash_74 fp8_44 k200 rfl g200_21 ?_
        refine r_iconst (pc := 77) hX dX8_doClash_77 ic_1 ?_
        refine r_lald (pc := 78) hX dX8_doClash_78 k212 (fun v18 => ?_)
        refine r_aload_n (pc := 79) hX 0 dX8_doClash_79 rfl rfl ?_
        refine r_getR (pc := 80) hX dX8_doClash_80 fp8_40 k200 rfl g200_20 ?_
        refine r_iconst (pc := 83) hX dX8_doClash_83 ic_3 ?_
        refine r_lald (pc := 84) hX dX8_doClash_84 k211 (fun v19 => ?_)
        refine r_lcmp (pc := 85) hX dX8_doClash_85 ?_
        refine r_if_ge (tgt := 91) (pc := 86) hX dX8_doClash_86 (by decide) ?_ ?_
        · skip
          exact r_sub [0, 1, 2, 3, 4] rfl (hk91_)
        · skip
          refine r_iconst (pc := 89) hX dX8_doClash_89 ic_1 ?_
          exact r_zretIk (pc := 90) hX hE dX8_doClash_90 (by decide)
def f_Mo_isWay (a0 : Int32) (a1 : Int32) (m : Me) : Option Int32 := cP (f_Mo_isName a0 m) (fun v1 => if v1 = 0 then some (0 : Int32) else cP (f_Mo_ways a0 m) (fun v2 => cP (f_Mo_in a1 (0 : Int32) (v2 - (1 : Int32)) m) (fun v3 => if v3 = 0 then some (0 : Int32) else some (1 : Int32))))
set_option maxHeartbeats 4000000 in
set_option maxRecDepth 100000 in
theorem c_Mo_isWay (a0 : Int32) (a1 : Int32)  (m : Me) (r : Int32) (h : f_Mo_isWay a0 a1 m = some r) : Ct yX8_isWay cX8_isWay 3 (some .boolean) 2 (fun ad => [.ref (ad 200), .int a0, .int a1]) m (fun ad => (some (.int r), m)) := by
  refine mk_ct (F := f_Mo_isWay a0 a1 m) (fun _ => oP m) r h (fun _ => rfl) (by decide) (fun _ => Nat.le_of_ble_eq_true rfl) ?_
  intro X hX hE
  show J X (oP m) (f_Mo_isWay a0 a1 m) m 0 [(0, rX X 200), (1, .int a0), (2, .int a1)] []
  unfold f_Mo_isWay
  refine r_aload_n (pc := 0) hX 0 dX8_isWay_0 rfl rfl ?_
  refine r_iload_n (pc := 1) hX 1 dX8_isWay_1 rfl rfl ?_
  refine r_cvP (st := []) (pc := 2) hX dX8_isWay_2 MI_Mo_isName MV_Mo_isName lkX8_115 k200 (c_Mo_isName a0 m) rfl rfl (Nat.le_of_ble_eq_true rfl) (by decide) (fun v1 => ?_)
  refine r_if_eq (tgt := 27) (pc := 5) hX dX8_isWay_5 (by decide) ?_ ?_
  · skip
    refine r_iconst (pc := 27) hX dX8_isWay_27 ic_0 ?_
    exact r_zretPk (pc := 28) hX hE dX8_isWay_28 (by decide)
  · skip
    refine r_iload_n (pc := 8) hX 2 dX8_isWay_8 rfl rfl ?_
    refine r_iconst (pc := 9) hX dX8_isWay_9 ic_0 ?_
    refine r_aload_n (pc := 10) hX 0 dX8_isWay_10 rfl rfl ?_
    refine r_iload_n (pc := 11) hX 1 dX8_isWay_11 rfl rfl ?_
    refine r_cvP (st := [.int (0 : Int32), .int a1]) (pc := 12) hX dX8_isWay_12 MI_Mo_ways MV_Mo_ways lkX8_190 k200 (c_Mo_ways a0 m) rfl rfl (Nat.le_of_ble_eq_true rfl) (by decide) (fun v2 => ?_)
    refine r_iconst (pc := 15) hX dX8_isWay_15 ic_1 ?_
    refine r_isub (pc := 16) hX dX8_isWay_16 ?_
    refine r_csP (st := []) (pc := 17) hX dX8_isWay_17 MI_Mo_in MS_Mo_in lkX8_104 (c_Mo_in a1 (0 : Int32) (v2 - (1 : Int32)) m) rfl rfl (Nat.le_of_ble_eq_true rfl) (by decide) (fun v3 => ?_)
    refine r_if_eq (tgt := 27) (pc := 20) hX dX8_isWay_20 (by decide) ?_ ?_
    · skip
      refine r_iconst (pc := 27) hX dX8_isWay_27 ic_0 ?_
      exact r_zretPk (pc := 28) hX hE dX8_isWay_28 (by decide)
    · skip
      refine r_iconst (pc := 23) hX dX8_isWay_23 ic_1 ?_
      refine r_goto (tgt := 28) (pc := 24) hX dX8_isWay_24 (by decide) ?_
      exact r_zretPk (pc := 28) hX hE dX8_isWay_28 (by decide)
def f_Mo_way (a0 : Int32) (a1 : Int32) (a2 : Int32) (a3 : Int32) (m : Me) : Option (Int32 × Me) := bd (si m 200 0 (0 : Int32)) (fun m1 => cP (f_Mo_isWay a0 a1 m1) (fun v2 => if v2 = 0 then some ((-3 : Int32), m1) else cP (f_Mo_in a2 (0 : Int32) (6 : Int32) m1) (fun v3 => if v3 = 0 then some ((-3 : Int32), m1) else cP (f_Mo_in a3 (0 : Int32) (5 : Int32) m1) (fun v4 => if v4 = 0 then some ((-3 : Int32), m1) else cP (f_Mo_box a0 a1 a2 m1) (fun m5 => if a3 = (0 : Int32) then some ((m5.1 200 16), m5) else if a3 = (1 : Int32) then some ((m5.1 200 17), m5) else if a3 = (2 : Int32) then some ((m5.1 200 18), m5) else if a3 = (3 : Int32) then some ((m5.1 200 19), m5) else if a3 = (4 : Int32) then cP (f_Mo_priceOf a0 a1 m5) (fun v6 => some (v6, m5)) else cI (f_Mo_isOpen a0 a1 a2 m5) (fun v7 m8 => if v7 = 0 then some ((0 : Int32), m8) else some ((1 : Int32), m8)))))))
set_option maxHeartbeats 4000000 in
set_option maxRecDepth 100000 in
theorem c_Mo_way (a0 : Int32) (a1 : Int32) (a2 : Int32) (a3 : Int32)  (m : Me) (r : Int32) (m' : Me) (h : f_Mo_way a0 a1 a2 a3 m = some (r, m')) : Ct yX8_way cX8_way 5 (some .int) 3 (fun ad => [.ref (ad 200), .int a0, .int a1, .int a2, .int a3]) m (fun ad => (some (.int r), m')) := by
  refine mk_ct (F := f_Mo_way a0 a1 a2 a3 m) (fun _ => oI) (r, m') h (fun _ => rfl) (by decide) (fun _ => Nat.le_of_ble_eq_true rfl) ?_
  intro X hX hE
  show J X oI (f_Mo_way a0 a1 a2 a3 m) m 0 [(0, rX X 200), (1, .int a0), (2, .int a1), (3, .int a2), (4, .int a3)] []
  unfold f_Mo_way
  refine r_aload_n (pc := 0) hX 0 dX8_way_0 rfl rfl ?_
  refine r_iconst (pc := 1) hX dX8_way_1 ic_0 ?_
  refine r_putI (pc := 2) hX dX8_way_2 fp8_78 k200 (fun m1 => ?_)
  refine r_aload_n (pc := 5) hX 0 dX8_way_5 rfl rfl ?_
  refine r_iload_n (pc := 6) hX 1 dX8_way_6 rfl rfl ?_
  refine r_iload_n (pc := 7) hX 2 dX8_way_7 rfl rfl ?_
  refine r_cvP (st := []) (pc := 8) hX dX8_way_8 MI_Mo_isWay MV_Mo_isWay lkX8_194 k200 (c_Mo_isWay a0 a1 m1) rfl rfl (Nat.le_of_ble_eq_true rfl) (by decide) (fun v2 => ?_)
  refine r_if_eq (tgt := 34) (pc := 11) hX dX8_way_11 (by decide) ?_ ?_
  · skip
    refine r_bipush (pc := 34) hX dX8_way_34 bp_m3 ?_
    exact r_iretI (pc := 36) hX hE dX8_way_36
  · skip
    refine r_iload_n (pc := 14) hX 3 dX8_way_14 rfl rfl ?_
    refine r_iconst (pc := 15) hX dX8_way_15 ic_0 ?_
    refine r_bipush (pc := 16) hX dX8_way_16 bp_6 ?_
    refine r_csP (st := []) (pc := 18) hX dX8_way_18 MI_Mo_in MS_Mo_in lkX8_104 (c_Mo_in a2 (0 : Int32) (6 : Int32) m1) rfl rfl (Nat.le_of_ble_eq_true rfl) (by decide) (fun v3 => ?_)
    refine r_if_eq (tgt := 34) (pc := 21) hX dX8_way_21 (by decide) ?_ ?_
    · skip
      refine r_bipush (pc := 34) hX dX8_way_34 bp_m3 ?_
      exact r_iretI (pc := 36) hX hE dX8_way_36
    · skip
      refine r_iload (pc := 24) hX 4 dX8_way_24 rfl ?_
      refine r_iconst (pc := 26) hX dX8_way_26 ic_0 ?_
      refine r_iconst (pc := 27) hX dX8_way_27 ic_5 ?_
      refine r_csP (st := []) (pc := 28) hX dX8_way_28 MI_Mo_in MS_Mo_in lkX8_104 (c_Mo_in a3 (0 : Int32) (5 : Int32) m1) rfl rfl (Nat.le_of_ble_eq_true rfl) (by decide) (fun v4 => ?_)
      refine r_if_ne (tgt := 37) (pc := 31) hX dX8_way_31 (by decide) ?_ ?_
      · skip
        refine r_aload_n (pc := 37) hX 0 dX8_way_37 rfl rfl ?_
        refine r_iload_n (pc := 38) hX 1 dX8_way_38 rfl rfl ?_
        refine r_iload_n (pc := 39) hX 2 dX8_way_39 rfl rfl ?_
        refine r_iload_n (pc := 40) hX 3 dX8_way_40 rfl rfl ?_
        refine r_cvV (st := []) (pc := 41) hX dX8_way_41 MI_Mo_box MV_Mo_box lkX8_134 k200 (c_Mo_box a0 a1 a2 m1) rfl rfl (Nat.le_of_ble_eq_true rfl) (by decide) (fun m5 => ?_)
        refine r_iload (pc := 44) hX 4 dX8_way_44 rfl ?_
        refine r_ite (fun hs0 => ?_) (fun hs0 => ?_)
        · refine r_swIn (tgt := 80) (pc := 46) hX dX8_way_46 (by rw [hs0]; decide) (by rw [hs0]; decide) (by rw [hs0]; rfl) (by decide) ?_
          refine r_aload_n (pc := 80) hX 0 dX8_way_80 rfl rfl ?_
          refine r_getI (pc := 81) hX dX8_way_81 fp8_122 k200 (by decide) ?_
          exact r_iretI (pc := 84) hX hE dX8_way_84
        refine r_ite (fun hs1 => ?_) (fun hs1 => ?_)
        · refine r_swIn (tgt := 85) (pc := 46) hX dX8_way_46 (by rw [hs1]; decide) (by rw [hs1]; decide) (by rw [hs1]; rfl) (by decide) ?_
          refine r_aload_n (pc := 85) hX 0 dX8_way_85 rfl rfl ?_
          refine r_getI (pc := 86) hX dX8_way_86 fp8_125 k200 (by decide) ?_
          exact r_iretI (pc := 89) hX hE dX8_way_89
        refine r_ite (fun hs2 => ?_) (fun hs2 => ?_)
        · refine r_swIn (tgt := 90) (pc := 46) hX dX8_way_46 (by rw [hs2]; decide) (by rw [hs2]; decide) (by rw [hs2]; rfl) (by decide) ?_
          refine r_aload_n (pc := 90) hX 0 dX8_way_90 rfl rfl ?_
          refine r_getI (pc := 91) hX dX8_way_91 fp8_128 k200 (by decide) ?_
          exact r_iretI (pc := 94) hX hE dX8_way_94
        refine r_ite (fun hs3 => ?_) (fun hs3 => ?_)
        · refine r_swIn (tgt := 95) (pc := 46) hX dX8_way_46 (by rw [hs3]; decide) (by rw [hs3]; decide) (by rw [hs3]; rfl) (by decide) ?_
          refine r_aload_n (pc := 95) hX 0 dX8_way_95 rfl rfl ?_
          refine r_getI (pc := 96) hX dX8_way_96 fp8_131 k200 (by decide) ?_
          exact r_iretI (pc := 99) hX hE dX8_way_99
        refine r_ite (fun hs4 => ?_) (fun hs4 => ?_)
        · refine r_swIn (tgt := 100) (pc := 46) hX dX8_way_46 (by rw [hs4]; decide) (by rw [hs4]; decide) (by rw [hs4]; rfl) (by decide) ?_
          refine r_aload_n (pc := 100) hX 0 dX8_way_100 rfl rfl ?_
          refine r_iload_n (pc := 101) hX 1 dX8_way_101 rfl rfl ?_
          refine r_iload_n (pc := 102) hX 2 dX8_way_102 rfl rfl ?_
          refine r_cvP (st := []) (pc := 103) hX dX8_way_103 MI_Mo_priceOf MV_Mo_priceOf lkX8_197 k200 (c_Mo_priceOf a0 a1 m5) rfl rfl (Nat.le_of_ble_eq_true rfl) (by decide) (fun v6 => ?_)
          exact r_iretI (pc := 106) hX hE dX8_way_106
        refine r_swOut (tgt := 107) (pc := 46) hX dX8_way_46 (sw_def (n := 4) (by decide) (fun k hk => by rcases (show k = 0 ∨ k = 1 ∨ k = 2 ∨ k = 3 ∨ k = 4 by omega) with rfl | rfl | rfl | rfl | rfl <;> first | exact hs0 | exact hs1 | exact hs2 | exact hs3 | exact hs4)) (by decide) ?_
        refine r_aload_n (pc := 107) hX 0 dX8_way_107 rfl rfl ?_
        refine r_iload_n (pc := 108) hX 1 dX8_way_108 rfl rfl ?_
        refine r_iload_n (pc := 109) hX 2 dX8_way_109 rfl rfl ?_
        refine r_iload_n (pc := 110) hX 3 dX8_way_110 rfl rfl ?_
        refine r_cvI (st := []) (pc := 111) hX dX8_way_111 MI_Mo_isOpen MV_Mo_isOpen lkX8_201 k200 (c_Mo_isOpen a0 a1 a2 m5) rfl rfl (Nat.le_of_ble_eq_true rfl) (by decide) (fun v7 m8 => ?_)
        refine r_if_eq (tgt := 121) (pc := 114) hX dX8_way_114 (by decide) ?_ ?_
        · skip
          refine r_iconst (pc := 121) hX dX8_way_121 ic_0 ?_
          exact r_iretI (pc := 122) hX hE dX8_way_122
        · skip
          refine r_iconst (pc := 117) hX dX8_way_117 ic_1 ?_
          refine r_goto (tgt := 122) (pc := 118) hX dX8_way_118 (by decide) ?_
          exact r_iretI (pc := 122) hX hE dX8_way_122
      · skip
        refine r_bipush (pc := 34) hX dX8_way_34 bp_m3 ?_
        exact r_iretI (pc := 36) hX hE dX8_way_36
def f_Mo_clash (a0 : Int32) (a1 : Int32) (a2 : Int32) (a3 : Int32) (a4 : Int32) (m : Me) : Option (Int32 × Me) := bd (si m 200 0 (0 : Int32)) (fun m1 => cP (f_Mo_isWay a0 a1 m1) (fun v2 => if v2 = 0 then some ((-3 : Int32), m1) else cP (f_Mo_isWay a2 a3 m1) (fun v3 => if v3 = 0 then some ((-3 : Int32), m1) else if a0 = a2 then some ((-3 : Int32), m1) else cP (f_Mo_in a4 (0 : Int32) (6 : Int32) m1) (fun v4 => if v4 = 0 then some ((-3 : Int32), m1) else cI (f_Mo_doClash a0 a1 a2 a3 a4 m1) (fun v5 m6 => if v5 = 0 then some ((0 : Int32), m6) else some ((1 : Int32), m6))))))
set_option maxHeartbeats 4000000 in
set_option maxRecDepth 100000 in
theorem c_Mo_clash (a0 : Int32) (a1 : Int32) (a2 : Int32) (a3 : Int32) (a4 : Int32)  (m : Me) (r : Int32) (m' : Me) (h : f_Mo_clash a0 a1 a2 a3 a4 m = some (r, m')) : Ct yX8_clash cX8_clash 6 (some .int) 4 (fun ad => [.ref (ad 200), .int a0, .int a1, .int a2, .int a3, .int a4]) m (fun ad => (some (.int r), m')) := by
  refine mk_ct (F := f_Mo_clash a0 a1 a2 a3 a4 m) (fun _ => oI) (r, m') h (fun _ => rfl) (by decide) (fun _ => Nat.le_of_ble_eq_true rfl) ?_
  intro X hX hE
  show J X oI (f_Mo_clash a0 a1 a2 a3 a4 m) m 0 [(0, rX X 200), (1, .int a0), (2, .int a1), (3, .int a2), (4, .int a3), (5, .int a4)] []
  unfold f_Mo_clash
  refine r_aload_n (pc := 0) hX 0 dX8_clash_0 rfl rfl ?_
  refine r_iconst (pc := 1) hX dX8_clash_1 ic_0 ?_
  refine r_putI (pc := 2) hX dX8_clash_2 fp8_78 k200 (fun m1 => ?_)
  refine r_aload_n (pc := 5) hX 0 dX8_clash_5 rfl rfl ?_
  refine r_iload_n (pc := 6) hX 1 dX8_clash_6 rfl rfl ?_
  refine r_iload_n (pc := 7) hX 2 dX8_clash_7 rfl rfl ?_
  refine r_cvP (st := []) (pc := 8) hX dX8_clash_8 MI_Mo_isWay MV_Mo_isWay lkX8_194 k200 (c_Mo_isWay a0 a1 m1) rfl rfl (Nat.le_of_ble_eq_true rfl) (by decide) (fun v2 => ?_)
  refine r_if_eq (tgt := 40) (pc := 11) hX dX8_clash_11 (by decide) ?_ ?_
  · skip
    refine r_bipush (pc := 40) hX dX8_clash_40 bp_m3 ?_
    exact r_iretI (pc := 42) hX hE dX8_clash_42
  · skip
    refine r_aload_n (pc := 14) hX 0 dX8_clash_14 rfl rfl ?_
    refine r_iload_n (pc := 15) hX 3 dX8_clash_15 rfl rfl ?_
    refine r_iload (pc := 16) hX 4 dX8_clash_16 rfl ?_
    refine r_cvP (st := []) (pc := 18) hX dX8_clash_18 MI_Mo_isWay MV_Mo_isWay lkX8_194 k200 (c_Mo_isWay a2 a3 m1) rfl rfl (Nat.le_of_ble_eq_true rfl) (by decide) (fun v3 => ?_)
    refine r_if_eq (tgt := 40) (pc := 21) hX dX8_clash_21 (by decide) ?_ ?_
    · skip
      refine r_bipush (pc := 40) hX dX8_clash_40 bp_m3 ?_
      exact r_iretI (pc := 42) hX hE dX8_clash_42
    · skip
      refine r_iload_n (pc := 24) hX 1 dX8_clash_24 rfl rfl ?_
      refine r_iload_n (pc := 25) hX 3 dX8_clash_25 rfl rfl ?_
      refine r_icmp_eq (tgt := 40) (pc := 26) hX dX8_clash_26 (by decide) ?_ ?_
      · skip
        refine r_bipush (pc := 40) hX dX8_clash_40 bp_m3 ?_
        exact r_iretI (pc := 42) hX hE dX8_clash_42
      · skip
        refine r_iload (pc := 29) hX 5 dX8_clash_29 rfl ?_
        refine r_iconst (pc := 31) hX dX8_clash_31 ic_0 ?_
        refine r_bipush (pc := 32) hX dX8_clash_32 bp_6 ?_
        refine r_csP (st := []) (pc := 34) hX dX8_clash_34 MI_Mo_in MS_Mo_in lkX8_104 (c_Mo_in a4 (0 : Int32) (6 : Int32) m1) rfl rfl (Nat.le_of_ble_eq_true rfl) (by decide) (fun v4 => ?_)
        refine r_if_ne (tgt := 43) (pc := 37) hX dX8_clash_37 (by decide) ?_ ?_
        · skip
          refine r_aload_n (pc := 43) hX 0 dX8_clash_43 rfl rfl ?_
          refine r_iload_n (pc := 44) hX 1 dX8_clash_44 rfl rfl ?_
          refine r_iload_n (pc := 45) hX 2 dX8_clash_45 rfl rfl ?_
          refine r_iload_n (pc := 46) hX 3 dX8_clash_46 rfl rfl ?_
          refine r_iload (pc := 47) hX 4 dX8_clash_47 rfl ?_
          refine r_iload (pc := 49) hX 5 dX8_clash_49 rfl ?_
          refine r_cvI (st := []) (pc := 51) hX dX8_clash_51 MI_Mo_doClash MV_Mo_doClash lkX8_204 k200 (c_Mo_doClash a0 a1 a2 a3 a4 m1) rfl rfl (Nat.le_of_ble_eq_true rfl) (by decide) (fun v5 m6 => ?_)
          refine r_if_eq (tgt := 61) (pc := 54) hX dX8_clash_54 (by decide) ?_ ?_
          · skip
            refine r_iconst (pc := 61) hX dX8_clash_61 ic_0 ?_
            exact r_iretI (pc := 62) hX hE dX8_clash_62
          · skip
            refine r_iconst (pc := 57) hX dX8_clash_57 ic_1 ?_
            refine r_goto (tgt := 62) (pc := 58) hX dX8_clash_58 (by decide) ?_
            exact r_iretI (pc := 62) hX hE dX8_clash_62
        · skip
          refine r_bipush (pc := 40) hX dX8_clash_40 bp_m3 ?_
          exact r_iretI (pc := 42) hX hE dX8_clash_42
def lb_Mo_clashes_34 (a0 : Int32) (a1 : Int32) (v4 : Int32) (k91_ : Int32 → Me → Option (Int32 × Me)) (s34 : Int32 → Int32 → Me → Option (Int32 × Me)) (v9 : Int32) (v10 : Int32) (m11 : Me) : Option (Int32 × Me) := cP (f_Mo_ways v4 m11) (fun v12 => if v12 ≤ v10 then (k91_ v9 m11) else if v4 = a0 then (k91_ v9 m11) else cI (f_Mo_isOpen v4 v10 (0 : Int32) m11) (fun v13 m14 => bd (fun (v15 : Int32) (m16 : Me) => bd ((v9 + v15)) (fun v17 => bd (v10 + 1) (fun v18 => (s34 v17 v18 m16)))) (fun k83_ => bd (fun (m19 : Me) => (k83_ (0 : Int32) m19)) (fun k82_ => if v13 = 0 then (k82_ m14) else cI (f_Mo_doClash a0 a1 v4 v10 (0 : Int32) m14) (fun v20 m21 => if v20 = 0 then (k82_ m21) else (k83_ (1 : Int32) m21))))))
def lb_Mo_clashes_22 (a0 : Int32) (a1 : Int32) (s22 : Int32 → Int32 → Me → Option (Int32 × Me)) (v3 : Int32) (v4 : Int32) (m5 : Me) : Option (Int32 × Me) := if (m5.1 200 1) ≤ v4 then some (v3, m5) else bd (fun (v6 : Int32) (m7 : Me) => bd (v4 + 1) (fun v8 => (s22 v6 v8 m7))) (fun k91_ => ((fx (lb_Mo_clashes_34 a0 a1 v4 k91_) (fun _ _ _ => none) FU) v3 (0 : Int32) m5))
def f_Mo_clashes (a0 : Int32) (a1 : Int32) (m : Me) : Option (Int32 × Me) := bd (si m 200 0 (0 : Int32)) (fun m1 => cP (f_Mo_isWay a0 a1 m1) (fun v2 => if v2 = 0 then some ((-3 : Int32), m1) else ((fx (lb_Mo_clashes_22 a0 a1) (fun _ _ _ => none) FU) (0 : Int32) (0 : Int32) m1)))
set_option maxHeartbeats 4000000 in
set_option maxRecDepth 100000 in
theorem c_Mo_clashes (a0 : Int32) (a1 : Int32)  (m : Me) (r : Int32) (m' : Me) (h : f_Mo_clashes a0 a1 m = some (r, m')) : Ct yX8_clashes cX8_clashes 6 (some .int) 4 (fun ad => [.ref (ad 200), .int a0, .int a1]) m (fun ad => (some (.int r), m')) := by
  refine mk_ct (F := f_Mo_clashes a0 a1 m) (fun _ => oI) (r, m') h (fun _ => rfl) (by decide) (fun _ => Nat.le_of_ble_eq_true rfl) ?_
  intro X hX hE
  show J X oI (f_Mo_clashes a0 a1 m) m 0 [(0, rX X 200), (1, .int a0), (2, .int a1)] []
  unfold f_Mo_clashes
  refine r_aload_n (pc := 0) hX 0 dX8_clashes_0 rfl rfl ?_
  refine r_iconst (pc := 1) hX dX8_clashes_1 ic_0 ?_
  refine r_putI (pc := 2) hX dX8_clashes_2 fp8_78 k200 (fun m1 => ?_)
  refine r_aload_n (pc := 5) hX 0 dX8_clashes_5 rfl rfl ?_
  refine r_iload_n (pc := 6) hX 1 dX8_clashes_6 rfl rfl ?_
  refine r_iload_n (pc := 7) hX 2 dX8_clashes_7 rfl rfl ?_
  refine r_cvP (st := []) (pc := 8) hX dX8_clashes_8 MI_Mo_isWay MV_Mo_isWay lkX8_194 k200 (c_Mo_isWay a0 a1 m1) rfl rfl (Nat.le_of_ble_eq_true rfl) (by decide) (fun v2 => ?_)
  refine r_if_ne (tgt := 17) (pc := 11) hX dX8_clashes_11 (by decide) ?_ ?_
  · skip
    refine r_iconst (pc := 17) hX dX8_clashes_17 ic_0 ?_
    refine r_istore_n (L' := [(3, .int (0 : Int32)), (0, rX X 200), (1, .int a0), (2, .int a1)]) (pc := 18) hX dX8_clashes_18 rfl (by decide) rfl ?_
    refine r_iconst (pc := 19) hX dX8_clashes_19 ic_0 ?_
    refine r_istore (L' := [(4, .int (0 : Int32)), (3, .int (0 : Int32)), (0, rX X 200), (1, .int a0), (2, .int a1)]) (pc := 20) hX dX8_clashes_20 (by decide) rfl ?_
    have hl22 : ∀ n : Nat, ∀ (v3 : Int32) (v4 : Int32) (m5 : Me), J X oI (fx (lb_Mo_clashes_22 a0 a1) (fun _ _ _ => none) n v3 v4 m5) m5 22 [(0, rX X 200), (1, .int a0), (2, .int a1), (3, .int v3), (4, .int v4)] [] := by
      refine fx_ind (fun (f : Int32 → Int32 → Me → Option (Int32 × Me)) => ∀ (v3 : Int32) (v4 : Int32) (m5 : Me), J X oI (f v3 v4 m5) m5 22 [(0, rX X 200), (1, .int a0), (2, .int a1), (3, .int v3), (4, .int v4)] []) (fun _ _ _ => r_none) ?_
      intro s22 hs22 v3 v4 m5
      unfold lb_Mo_clashes_22
      refine r_iload (pc := 22) hX 4 dX8_clashes_22 rfl ?_
      refine r_aload_n (pc := 24) hX 0 dX8_clashes_24 rfl rfl ?_
      refine r_getI (pc := 25) hX dX8_clashes_25 fp8_88 k200 (by decide) ?_
      refine r_icmp_ge (tgt := 97) (pc := 28) hX dX8_clashes_28 (by decide) ?_ ?_
      · skip
        refine r_iload_n (pc := 97) hX 3 dX8_clashes_97 rfl rfl ?_
        exact r_iretI (pc := 98) hX hE dX8_clashes_98
      · skip
        refine r_iconst (pc := 31) hX dX8_clashes_31 ic_0 ?_
        refine r_istore (L' := [(5, .int (0 : Int32)), (0, rX X 200), (1, .int a0), (2, .int a1), (3, .int v3), (4, .int v4)]) (pc := 32) hX dX8_clashes_32 (by decide) rfl ?_
        refine r_join (P := fun k => ∀ (v6 : Int32) (m7 : Me), J X oI (k v6 m7) m7 91 [(0, rX X 200), (1, .int a0), (2, .int a1), (3, .int v6), (4, .int v4)] []) ?_ ?_
        · intro v6 m7
          refine r_iincN (L' := fun w => [(4, .int w), (0, rX X 200), (1, .int a0), (2, .int a1), (3, .int v6)]) (pc := 91) hX 4 dX8_clashes_91 rfl rfl (by decide) (fun _ => rfl) (fun v8 => ?_)
          refine r_goto (tgt := 22) (pc := 94) hX dX8_clashes_94 (by decide) ?_
          exact r_sub [1, 2, 3, 4, 0] rfl (hs22 v6 v8 m7)
        intro k91_ hk91_
        have hl34 : ∀ n : Nat, ∀ (v9 : Int32) (v10 : Int32) (m11 : Me), J X oI (fx (lb_Mo_clashes_34 a0 a1 v4 k91_) (fun _ _ _ => none) n v9 v10 m11) m11 34 [(0, rX X 200), (1, .int a0), (2, .int a1), (3, .int v9), (4, .int v4), (5, .int v10)] [] := by
          refine fx_ind (fun (f : Int32 → Int32 → Me → Option (Int32 × Me)) => ∀ (v9 : Int32) (v10 : Int32) (m11 : Me), J X oI (f v9 v10 m11) m11 34 [(0, rX X 200), (1, .int a0), (2, .int a1), (3, .int v9), (4, .int v4), (5, .int v10)] []) (fun _ _ _ => r_none) ?_
          intro s34 hs34 v9 v10 m11
          unfold lb_Mo_clashes_34
          refine r_iload (pc := 34) hX 5 dX8_clashes_34 rfl ?_
          refine r_aload_n (pc := 36) hX 0 dX8_clashes_36 rfl rfl ?_
          refine r_iload (pc := 37) hX 4 dX8_clashes_37 rfl ?_
          refine r_cvP (st := [.int v10]) (pc := 39) hX dX8_clashes_39 MI_Mo_ways MV_Mo_ways lkX8_190 k200 (c_Mo_ways v4 m11) rfl rfl (Nat.le_of_ble_eq_true rfl) (by decide) (fun v12 => ?_)
          refine r_icmp_ge (tgt := 91) (pc := 42) hX dX8_clashes_42 (by decide) ?_ ?_
          · skip
            exact r_sub [0, 1, 2, 3, 4] rfl (hk91_ v9 m11)
          · skip
            refine r_iload (pc := 45) hX 4 dX8_clashes_45 rfl ?_
            refine r_iload_n (pc := 47) hX 1 dX8_clashes_47 rfl rfl ?_
            refine r_icmp_eq (tgt := 91) (pc := 48) hX dX8_clashes_48 (by decide) ?_ ?_
            · skip
              exact r_sub [0, 1, 2, 3, 4] rfl (hk91_ v9 m11)
            · skip
              refine r_iload_n (pc := 51) hX 3 dX8_clashes_51 rfl rfl ?_
              refine r_aload_n (pc := 52) hX 0 dX8_clashes_52 rfl rfl ?_
              refine r_iload (pc := 53) hX 4 dX8_clashes_53 rfl ?_
              refine r_iload (pc := 55) hX 5 dX8_clashes_55 rfl ?_
              refine r_iconst (pc := 57) hX dX8_clashes_57 ic_0 ?_
              refine r_cvI (st := [.int v9]) (pc := 58) hX dX8_clashes_58 MI_Mo_isOpen MV_Mo_isOpen lkX8_201 k200 (c_Mo_isOpen v4 v10 (0 : Int32) m11) rfl rfl (Nat.le_of_ble_eq_true rfl) (by decide) (fun v13 m14 => ?_)
              refine r_join (P := fun k => ∀ (v15 : Int32) (m16 : Me), J X oI (k v15 m16) m16 83 [(0, rX X 200), (1, .int a0), (2, .int a1), (4, .int v4), (5, .int v10)] [.int v15, .int v9]) ?_ ?_
              · intro v15 m16
                refine r_iadd (pc := 83) hX dX8_clashes_83 ?_
                refine r_nmI (fun v17 => ?_)
                refine r_istore_n (L' := [(3, .int v17), (0, rX X 200), (1, .int a0), (2, .int a1), (4, .int v4), (5, .int v10)]) (pc := 84) hX dX8_clashes_84 rfl (by decide) rfl ?_
                refine r_iincN (L' := fun w => [(5, .int w), (3, .int v17), (0, rX X 200), (1, .int a0), (2, .int a1), (4, .int v4)]) (pc := 85) hX 5 dX8_clashes_85 rfl rfl (by decide) (fun _ => rfl) (fun v18 => ?_)
                refine r_goto (tgt := 34) (pc := 88) hX dX8_clashes_88 (by decide) ?_
                exact r_sub [2, 3, 4, 1, 5, 0] rfl (hs34 v17 v18 m16)
              intro k83_ hk83_
              refine r_join (P := fun k => ∀ (m19 : Me), J X oI (k m19) m19 82 [(0, rX X 200), (1, .int a0), (2, .int a1), (4, .int v4), (5, .int v10)] [.int v9]) ?_ ?_
              · intro m19
                refine r_iconst (pc := 82) hX dX8_clashes_82 ic_0 ?_
                exact hk83_ (0 : Int32) m19
              intro k82_ hk82_
              refine r_if_eq (tgt := 82) (pc := 61) hX dX8_clashes_61 (by decide) ?_ ?_
              · skip
                exact r_sub [0, 1, 2, 4, 5] rfl (hk82_ m14)
              · skip
                refine r_aload_n (pc := 64) hX 0 dX8_clashes_64 rfl rfl ?_
                refine r_iload_n (pc := 65) hX 1 dX8_clashes_65 rfl rfl ?_
                refine r_iload_n (pc := 66) hX 2 dX8_clashes_66 rfl rfl ?_
                refine r_iload (pc := 67) hX 4 dX8_clashes_67 rfl ?_
                refine r_iload (pc := 69) hX 5 dX8_clashes_69 rfl ?_
                refine r_iconst (pc := 71) hX dX8_clashes_71 ic_0 ?_
                refine r_cvI (st := [.int v9]) (pc := 72) hX dX8_clashes_72 MI_Mo_doClash MV_Mo_doClash lkX8_204 k200 (c_Mo_doClash a0 a1 v4 v10 (0 : Int32) m14) rfl rfl (Nat.le_of_ble_eq_true rfl) (by decide) (fun v20 m21 => ?_)
                refine r_if_eq (tgt := 82) (pc := 75) hX dX8_clashes_75 (by decide) ?_ ?_
                · skip
                  exact r_sub [0, 1, 2, 4, 5] rfl (hk82_ m21)
                · skip
                  refine r_iconst (pc := 78) hX dX8_clashes_78 ic_1 ?_
                  refine r_goto (tgt := 83) (pc := 79) hX dX8_clashes_79 (by decide) ?_
                  exact r_sub [0, 1, 2, 4, 5] rfl (hk83_ (1 : Int32) m21)
        exact r_sub [1, 2, 3, 4, 5, 0] rfl (hl34 FU v3 (0 : Int32) m5)
    exact r_sub [2, 3, 4, 1, 0] rfl (hl22 FU (0 : Int32) (0 : Int32) m1)
  · skip
    refine r_bipush (pc := 14) hX dX8_clashes_14 bp_m3 ?_
    exact r_iretI (pc := 16) hX hE dX8_clashes_16
def lb_Mo_findOpen_12 (v1 : Int32) (k59_ : Me → Option Me) (s12 : Int32 → Me → Option Me) (v5 : Int32) (m6 : Me) : Option Me := if (16 : Int32) ≤ v5 then (k59_ m6) else cP (f_Mo_ways v1 m6) (fun v7 => bd (fun (v8 : Int32) (m9 : Me) => wz m9 214 (ln 214) ((((16 : Int32) * v1)) + v5) v8 (fun m10 => bd (v5 + 1) (fun v11 => (s12 v11 m10)))) (fun k52_ => bd (fun (m12 : Me) => (k52_ (0 : Int32) m12)) (fun k51_ => if v7 ≤ v5 then (k51_ m6) else cI (f_Mo_isOpen v1 v5 (0 : Int32) m6) (fun v13 m14 => if v13 = 0 then (k51_ m14) else (k52_ (1 : Int32) m14)))))
def lb_Mo_findOpen_2  (s2 : Int32 → Me → Option Me) (v1 : Int32) (m2 : Me) : Option Me := if (m2.1 200 1) ≤ v1 then some m2 else bd (fun (m3 : Me) => bd (v1 + 1) (fun v4 => (s2 v4 m3))) (fun k59_ => ((fx (lb_Mo_findOpen_12 v1 k59_) (fun _ _ => none) FU) (0 : Int32) m2))
def f_Mo_findOpen  (m : Me) : Option Me := ((fx (lb_Mo_findOpen_2) (fun _ _ => none) FU) (0 : Int32) m)
set_option maxHeartbeats 4000000 in
set_option maxRecDepth 100000 in
theorem c_Mo_findOpen   (m : Me) (r : Me) (h : f_Mo_findOpen  m = some r) : Ct yX8_findOpen cX8_findOpen 3 none 3 (fun ad => [.ref (ad 200)]) m (fun ad => (none, r)) := by
  refine mk_ct (F := f_Mo_findOpen  m) (fun _ => oV) r h (fun _ => rfl) (by decide) (fun _ => Nat.le_of_ble_eq_true rfl) ?_
  intro X hX hE
  show J X oV (f_Mo_findOpen  m) m 0 [(0, rX X 200)] []
  unfold f_Mo_findOpen
  refine r_iconst (pc := 0) hX dX8_findOpen_0 ic_0 ?_
  refine r_istore_n (L' := [(1, .int (0 : Int32)), (0, rX X 200)]) (pc := 1) hX dX8_findOpen_1 rfl (by decide) rfl ?_
  have hl2 : ∀ n : Nat, ∀ (v1 : Int32) (m2 : Me), J X oV (fx (lb_Mo_findOpen_2) (fun _ _ => none) n v1 m2) m2 2 [(0, rX X 200), (1, .int v1)] [] := by
    refine fx_ind (fun (f : Int32 → Me → Option Me) => ∀ (v1 : Int32) (m2 : Me), J X oV (f v1 m2) m2 2 [(0, rX X 200), (1, .int v1)] []) (fun _ _ => r_none) ?_
    intro s2 hs2 v1 m2
    unfold lb_Mo_findOpen_2
    refine r_iload_n (pc := 2) hX 1 dX8_findOpen_2 rfl rfl ?_
    refine r_aload_n (pc := 3) hX 0 dX8_findOpen_3 rfl rfl ?_
    refine r_getI (pc := 4) hX dX8_findOpen_4 fp8_88 k200 (by decide) ?_
    refine r_icmp_ge (tgt := 65) (pc := 7) hX dX8_findOpen_7 (by decide) ?_ ?_
    · skip
      exact r_vret (pc := 65) hX hE dX8_findOpen_65
    · skip
      refine r_iconst (pc := 10) hX dX8_findOpen_10 ic_0 ?_
      refine r_istore_n (L' := [(2, .int (0 : Int32)), (0, rX X 200), (1, .int v1)]) (pc := 11) hX dX8_findOpen_11 rfl (by decide) rfl ?_
      refine r_join (P := fun k => ∀ (m3 : Me), J X oV (k m3) m3 59 [(0, rX X 200), (1, .int v1)] []) ?_ ?_
      · intro m3
        refine r_iincN (L' := fun w => [(1, .int w), (0, rX X 200)]) (pc := 59) hX 1 dX8_findOpen_59 rfl rfl (by decide) (fun _ => rfl) (fun v4 => ?_)
        refine r_goto (tgt := 2) (pc := 62) hX dX8_findOpen_62 (by decide) ?_
        exact r_sub [1, 0] rfl (hs2 v4 m3)
      intro k59_ hk59_
      have hl12 : ∀ n : Nat, ∀ (v5 : Int32) (m6 : Me), J X oV (fx (lb_Mo_findOpen_12 v1 k59_) (fun _ _ => none) n v5 m6) m6 12 [(0, rX X 200), (1, .int v1), (2, .int v5)] [] := by
        refine fx_ind (fun (f : Int32 → Me → Option Me) => ∀ (v5 : Int32) (m6 : Me), J X oV (f v5 m6) m6 12 [(0, rX X 200), (1, .int v1), (2, .int v5)] []) (fun _ _ => r_none) ?_
        intro s12 hs12 v5 m6
        unfold lb_Mo_findOpen_12
        refine r_iload_n (pc := 12) hX 2 dX8_findOpen_12 rfl rfl ?_
        refine r_bipush (pc := 13) hX dX8_findOpen_13 bp_16 ?_
        refine r_icmp_ge (tgt := 59) (pc := 15) hX dX8_findOpen_15 (by decide) ?_ ?_
        · skip
          exact r_sub [0, 1] rfl (hk59_ m6)
        · skip
          refine r_aload_n (pc := 18) hX 0 dX8_findOpen_18 rfl rfl ?_
          refine r_getR (pc := 19) hX dX8_findOpen_19 fp8_50 k200 rfl g200_27 ?_
          refine r_bipush (pc := 22) hX dX8_findOpen_22 bp_16 ?_
          refine r_iload_n (pc := 24) hX 1 dX8_findOpen_24 rfl rfl ?_
          refine r_imul (pc := 25) hX dX8_findOpen_25 ?_
          refine r_iload_n (pc := 26) hX 2 dX8_findOpen_26 rfl rfl ?_
          refine r_iadd (pc := 27) hX dX8_findOpen_27 ?_
          refine r_iload_n (pc := 28) hX 2 dX8_findOpen_28 rfl rfl ?_
          refine r_aload_n (pc := 29) hX 0 dX8_findOpen_29 rfl rfl ?_
          refine r_iload_n (pc := 30) hX 1 dX8_findOpen_30 rfl rfl ?_
          refine r_cvP (st := [.int v5, .int ((((16 : Int32) * v1)) + v5), rX X 214]) (pc := 31) hX dX8_findOpen_31 MI_Mo_ways MV_Mo_ways lkX8_190 k200 (c_Mo_ways v1 m6) rfl rfl (Nat.le_of_ble_eq_true rfl) (by decide) (fun v7 => ?_)
          refine r_join (P := fun k => ∀ (v8 : Int32) (m9 : Me), J X oV (k v8 m9) m9 52 [(0, rX X 200), (1, .int v1), (2, .int v5)] [.int v8, .int ((((16 : Int32) * v1)) + v5), rX X 214]) ?_ ?_
          · intro v8 m9
            refine r_zast (pc := 52) hX dX8_findOpen_52 k214 (fun m10 => ?_)
            refine r_iincN (L' := fun w => [(2, .int w), (0, rX X 200), (1, .int v1)]) (pc := 53) hX 2 dX8_findOpen_53 rfl rfl (by decide) (fun _ => rfl) (fun v11 => ?_)
            refine r_goto (tgt := 12) (pc := 56) hX dX8_findOpen_56 (by decide) ?_
            exact r_sub [1, 2, 0] rfl (hs12 v11 m10)
          intro k52_ hk52_
          refine r_join (P := fun k => ∀ (m12 : Me), J X oV (k m12) m12 51 [(0, rX X 200), (1, .int v1), (2, .int v5)] [.int ((((16 : Int32) * v1)) + v5), rX X 214]) ?_ ?_
          · intro m12
            refine r_iconst (pc := 51) hX dX8_findOpen_51 ic_0 ?_
            exact hk52_ (0 : Int32) m12
          intro k51_ hk51_
          refine r_icmp_ge (tgt := 51) (pc := 34) hX dX8_findOpen_34 (by decide) ?_ ?_
          · skip
            exact hk51_ m6
          · skip
            refine r_aload_n (pc := 37) hX 0 dX8_findOpen_37 rfl rfl ?_
            refine r_iload_n (pc := 38) hX 1 dX8_findOpen_38 rfl rfl ?_
            refine r_iload_n (pc := 39) hX 2 dX8_findOpen_39 rfl rfl ?_
            refine r_iconst (pc := 40) hX dX8_findOpen_40 ic_0 ?_
            refine r_cvI (st := [.int ((((16 : Int32) * v1)) + v5), rX X 214]) (pc := 41) hX dX8_findOpen_41 MI_Mo_isOpen MV_Mo_isOpen lkX8_201 k200 (c_Mo_isOpen v1 v5 (0 : Int32) m6) rfl rfl (Nat.le_of_ble_eq_true rfl) (by decide) (fun v13 m14 => ?_)
            refine r_if_eq (tgt := 51) (pc := 44) hX dX8_findOpen_44 (by decide) ?_ ?_
            · skip
              exact hk51_ m14
            · skip
              refine r_iconst (pc := 47) hX dX8_findOpen_47 ic_1 ?_
              refine r_goto (tgt := 52) (pc := 48) hX dX8_findOpen_48 (by decide) ?_
              exact hk52_ (1 : Int32) m14
      exact r_sub [1, 2, 0] rfl (hl12 FU (0 : Int32) m2)
  exact r_sub [1, 0] rfl (hl2 FU (0 : Int32) m)
def lb_Mo_touch_11 (a0 : Int32) (a1 : Int32) (v1 : Int32) (k68_ : Me → Option (Int32 × Me)) (s11 : Int32 → Me → Option (Int32 × Me)) (v5 : Int32) (m6 : Me) : Option (Int32 × Me) := if (16 : Int32) ≤ v5 then (k68_ m6) else rd (ln 214) ((((16 : Int32) * a0)) + v1) (m6.1 214) (fun v7 => if v7 = 0 then (k68_ m6) else rd (ln 214) ((((16 : Int32) * a1)) + v5) (m6.1 214) (fun v8 => bd (fun (m9 : Me) => bd (v5 + 1) (fun v10 => (s11 v10 m9))) (fun k62_ => if v8 = 0 then (k62_ m6) else cI (f_Mo_doClash a0 v1 a1 v5 (0 : Int32) m6) (fun v11 m12 => if v11 = 0 then (k62_ m12) else some ((1 : Int32), m12)))))
def lb_Mo_touch_2 (a0 : Int32) (a1 : Int32) (s2 : Int32 → Me → Option (Int32 × Me)) (v1 : Int32) (m2 : Me) : Option (Int32 × Me) := if (16 : Int32) ≤ v1 then some ((0 : Int32), m2) else bd (fun (m3 : Me) => bd (v1 + 1) (fun v4 => (s2 v4 m3))) (fun k68_ => ((fx (lb_Mo_touch_11 a0 a1 v1 k68_) (fun _ _ => none) FU) (0 : Int32) m2))
def f_Mo_touch (a0 : Int32) (a1 : Int32) (m : Me) : Option (Int32 × Me) := ((fx (lb_Mo_touch_2 a0 a1) (fun _ _ => none) FU) (0 : Int32) m)
set_option maxHeartbeats 4000000 in
set_option maxRecDepth 100000 in
theorem c_Mo_touch (a0 : Int32) (a1 : Int32)  (m : Me) (r : Int32) (m' : Me) (h : f_Mo_touch a0 a1 m = some (r, m')) : Ct yX8_touch cX8_touch 5 (some .boolean) 4 (fun ad => [.ref (ad 200), .int a0, .int a1]) m (fun ad => (some (.int r), m')) := by
  refine mk_ct (F := f_Mo_touch a0 a1 m) (fun _ => oI) (r, m') h (fun _ => rfl) (by decide) (fun _ => Nat.le_of_ble_eq_true rfl) ?_
  intro X hX hE
  show J X oI (f_Mo_touch a0 a1 m) m 0 [(0, rX X 200), (1, .int a0), (2, .int a1)] []
  unfold f_Mo_touch
  refine r_iconst (pc := 0) hX dX8_touch_0 ic_0 ?_
  refine r_istore_n (L' := [(3, .int (0 : Int32)), (0, rX X 200), (1, .int a0), (2, .int a1)]) (pc := 1) hX dX8_touch_1 rfl (by decide) rfl ?_
  have hl2 : ∀ n : Nat, ∀ (v1 : Int32) (m2 : Me), J X oI (fx (lb_Mo_touch_2 a0 a1) (fun _ _ => none) n v1 m2) m2 2 [(0, rX X 200), (1, .int a0), (2, .int a1), (3, .int v1)] [] := by
    refine fx_ind (fun (f : Int32 → Me → Option (Int32 × Me)) => ∀ (v1 : Int32) (m2 : Me), J X oI (f v1 m2) m2 2 [(0, rX X 200), (1, .int a0), (2, .int a1), (3, .int v1)] []) (fun _ _ => r_none) ?_
    intro s2 hs2 v1 m2
    unfold lb_Mo_touch_2
    refine r_iload_n (pc := 2) hX 3 dX8_touch_2 rfl rfl ?_
    refine r_bipush (pc := 3) hX dX8_touch_3 bp_16 ?_
    refine r_icmp_ge (tgt := 74) (pc := 5) hX dX8_touch_5 (by decide) ?_ ?_
    · skip
      refine r_iconst (pc := 74) hX dX8_touch_74 ic_0 ?_
      exact r_zretIk (pc := 75) hX hE dX8_touch_75 (by decide)
    · skip
      refine r_iconst (pc := 8) hX dX8_touch_8 ic_0 ?_
      refine r_istore (L' := [(4, .int (0 : Int32)), (0, rX X 200), (1, .int a0), (2, .int a1), (3, .int v1)]) (pc := 9) hX dX8_touch_9 (by decide) rfl ?_
      refine r_join (P := fun k => ∀ (m3 : Me), J X oI (k m3) m3 68 [(0, rX X 200), (1, .int a0), (2, .int a1), (3, .int v1)] []) ?_ ?_
      · intro m3
        refine r_iincN (L' := fun w => [(3, .int w), (0, rX X 200), (1, .int a0), (2, .int a1)]) (pc := 68) hX 3 dX8_touch_68 rfl rfl (by decide) (fun _ => rfl) (fun v4 => ?_)
        refine r_goto (tgt := 2) (pc := 71) hX dX8_touch_71 (by decide) ?_
        exact r_sub [1, 2, 3, 0] rfl (hs2 v4 m3)
      intro k68_ hk68_
      have hl11 : ∀ n : Nat, ∀ (v5 : Int32) (m6 : Me), J X oI (fx (lb_Mo_touch_11 a0 a1 v1 k68_) (fun _ _ => none) n v5 m6) m6 11 [(0, rX X 200), (1, .int a0), (2, .int a1), (3, .int v1), (4, .int v5)] [] := by
        refine fx_ind (fun (f : Int32 → Me → Option (Int32 × Me)) => ∀ (v5 : Int32) (m6 : Me), J X oI (f v5 m6) m6 11 [(0, rX X 200), (1, .int a0), (2, .int a1), (3, .int v1), (4, .int v5)] []) (fun _ _ => r_none) ?_
        intro s11 hs11 v5 m6
        unfold lb_Mo_touch_11
        refine r_iload (pc := 11) hX 4 dX8_touch_11 rfl ?_
        refine r_bipush (pc := 13) hX dX8_touch_13 bp_16 ?_
        refine r_icmp_ge (tgt := 68) (pc := 15) hX dX8_touch_15 (by decide) ?_ ?_
        · skip
          exact r_sub [0, 1, 2, 3] rfl (hk68_ m6)
        · skip
          refine r_aload_n (pc := 18) hX 0 dX8_touch_18 rfl rfl ?_
          refine r_getR (pc := 19) hX dX8_touch_19 fp8_50 k200 rfl g200_27 ?_
          refine r_bipush (pc := 22) hX dX8_touch_22 bp_16 ?_
          refine r_iload_n (pc := 24) hX 1 dX8_touch_24 rfl rfl ?_
          refine r_imul (pc := 25) hX dX8_touch_25 ?_
          refine r_iload_n (pc := 26) hX 3 dX8_touch_26 rfl rfl ?_
          refine r_iadd (pc := 27) hX dX8_touch_27 ?_
          refine r_zald (pc := 28) hX dX8_touch_28 k214 (fun v7 => ?_)
          refine r_if_eq (tgt := 68) (pc := 29) hX dX8_touch_29 (by decide) ?_ ?_
          · skip
            exact r_sub [0, 1, 2, 3] rfl (hk68_ m6)
          · skip
            refine r_aload_n (pc := 32) hX 0 dX8_touch_32 rfl rfl ?_
            refine r_getR (pc := 33) hX dX8_touch_33 fp8_50 k200 rfl g200_27 ?_
            refine r_bipush (pc := 36) hX dX8_touch_36 bp_16 ?_
            refine r_iload_n (pc := 38) hX 2 dX8_touch_38 rfl rfl ?_
            refine r_imul (pc := 39) hX dX8_touch_39 ?_
            refine r_iload (pc := 40) hX 4 dX8_touch_40 rfl ?_
            refine r_iadd (pc := 42) hX dX8_touch_42 ?_
            refine r_zald (pc := 43) hX dX8_touch_43 k214 (fun v8 => ?_)
            refine r_join (P := fun k => ∀ (m9 : Me), J X oI (k m9) m9 62 [(0, rX X 200), (1, .int a0), (2, .int a1), (3, .int v1), (4, .int v5)] []) ?_ ?_
            · intro m9
              refine r_iincN (L' := fun w => [(4, .int w), (0, rX X 200), (1, .int a0), (2, .int a1), (3, .int v1)]) (pc := 62) hX 4 dX8_touch_62 rfl rfl (by decide) (fun _ => rfl) (fun v10 => ?_)
              refine r_goto (tgt := 11) (pc := 65) hX dX8_touch_65 (by decide) ?_
              exact r_sub [1, 2, 3, 4, 0] rfl (hs11 v10 m9)
            intro k62_ hk62_
            refine r_if_eq (tgt := 62) (pc := 44) hX dX8_touch_44 (by decide) ?_ ?_
            · skip
              exact hk62_ m6
            · skip
              refine r_aload_n (pc := 47) hX 0 dX8_touch_47 rfl rfl ?_
              refine r_iload_n (pc := 48) hX 1 dX8_touch_48 rfl rfl ?_
              refine r_iload_n (pc := 49) hX 3 dX8_touch_49 rfl rfl ?_
              refine r_iload_n (pc := 50) hX 2 dX8_touch_50 rfl rfl ?_
              refine r_iload (pc := 51) hX 4 dX8_touch_51 rfl ?_
              refine r_iconst (pc := 53) hX dX8_touch_53 ic_0 ?_
              refine r_cvI (st := []) (pc := 54) hX dX8_touch_54 MI_Mo_doClash MV_Mo_doClash lkX8_204 k200 (c_Mo_doClash a0 v1 a1 v5 (0 : Int32) m6) rfl rfl (Nat.le_of_ble_eq_true rfl) (by decide) (fun v11 m12 => ?_)
              refine r_if_eq (tgt := 62) (pc := 57) hX dX8_touch_57 (by decide) ?_ ?_
              · skip
                exact hk62_ m12
              · skip
                refine r_iconst (pc := 60) hX dX8_touch_60 ic_1 ?_
                exact r_zretIk (pc := 61) hX hE dX8_touch_61 (by decide)
      exact r_sub [1, 2, 3, 4, 0] rfl (hl11 FU (0 : Int32) m2)
  exact r_sub [1, 2, 3, 0] rfl (hl2 FU (0 : Int32) m)
def lb_Mo_findParts_268 (v4 : Int32) (s268 : Int32 → Me → Option (Int32 × Me)) (v6 : Int32) (m7 : Me) : Option (Int32 × Me) := if (m7.1 200 1) ≤ v6 then some (v4, m7) else rd (ln 213) v6 (m7.1 213) (fun v8 => wi m7 213 (ln 213) v6 ((-1 : Int32) - v8) (fun m9 => bd (v6 + 1) (fun v10 => (s268 v10 m9))))
def lb_Mo_findParts_215 (v11 : Int32) (v12 : Int32) (k257_ : Me → Option (Int32 × Me)) (s215 : Int32 → Me → Option (Int32 × Me)) (v20 : Int32) (m21 : Me) : Option (Int32 × Me) := if (m21.1 200 1) ≤ v20 then (k257_ m21) else rd (ln 213) v20 (m21.1 213) (fun v22 => bd (fun (v23 : Int32) => wi m21 213 (ln 213) v20 v23 (fun m24 => bd (v20 + 1) (fun v25 => (s215 v25 m24)))) (fun k250_ => if v22 = v12 then (k250_ (((-1 : Int32) - v11))) else rd (ln 213) v20 (m21.1 213) (fun v26 => (k250_ v26))))
def lb_Mo_findParts_195 (k266_ : Int32 → Me → Option (Int32 × Me)) (s195 : Int32 → Int32 → Me → Option (Int32 × Me)) (v11 : Int32) (v12 : Int32) (m13 : Me) : Option (Int32 × Me) := if (m13.1 200 1) ≤ v12 then (k266_ v11 m13) else rd (ln 213) v12 (m13.1 213) (fun v14 => bd (fun (v15 : Int32) (m16 : Me) => bd (v12 + 1) (fun v17 => (s195 v15 v17 m16))) (fun k260_ => if v14 = v12 then bd (fun (m18 : Me) => bd (v11 + 1) (fun v19 => (k260_ v19 m18))) (fun k257_ => ((fx (lb_Mo_findParts_215 v11 v12 k257_) (fun _ _ => none) FU) v12 m13)) else (k260_ v11 m13)))
def lb_Mo_findParts_134 (k179_ : Me → Option (Int32 × Me)) (v41 : Int32) (v44 : Int32) (s134 : Int32 → Me → Option (Int32 × Me)) (v45 : Int32) (m46 : Me) : Option (Int32 × Me) := if (m46.1 200 1) ≤ v45 then (k179_ m46) else rd (ln 213) v45 (m46.1 213) (fun v47 => bd (fun (v48 : Int32) => wi m46 213 (ln 213) v45 v48 (fun m49 => bd (v45 + 1) (fun v50 => (s134 v50 m49)))) (fun k172_ => if v47 = v41 then (k172_ v44) else rd (ln 213) v45 (m46.1 213) (fun v51 => (k172_ v51))))
def lb_Mo_findParts_39 (v27 : Int32) (k185_ : Me → Option (Int32 × Me)) (s39 : Int32 → Me → Option (Int32 × Me)) (v31 : Int32) (m32 : Me) : Option (Int32 × Me) := if v27 ≤ v31 then (k185_ m32) else rd (ln 213) v27 (m32.1 213) (fun v33 => rd (ln 213) v31 (m32.1 213) (fun v34 => bd (fun (m35 : Me) => bd (v31 + 1) (fun v36 => (s39 v36 m35))) (fun k179_ => if v33 = v34 then (k179_ m32) else cI (f_Mo_touch v27 v31 m32) (fun v37 m38 => if v37 = 0 then (k179_ m38) else rd (ln 213) v27 (m38.1 213) (fun v39 => rd (ln 213) v31 (m38.1 213) (fun v40 => bd (fun (v41 : Int32) => rd (ln 213) v27 (m38.1 213) (fun v42 => rd (ln 213) v31 (m38.1 213) (fun v43 => bd (fun (v44 : Int32) => ((fx (lb_Mo_findParts_134 k179_ v41 v44) (fun _ _ => none) FU) (0 : Int32) m38)) (fun k129_ => if v42 ≤ v43 then rd (ln 213) v27 (m38.1 213) (fun v52 => (k129_ v52)) else rd (ln 213) v31 (m38.1 213) (fun v53 => (k129_ v53)))))) (fun k98_ => if v39 ≤ v40 then rd (ln 213) v31 (m38.1 213) (fun v54 => (k98_ v54)) else rd (ln 213) v27 (m38.1 213) (fun v55 => (k98_ v55)))))))))
def lb_Mo_findParts_29 (k191_ : Me → Option (Int32 × Me)) (s29 : Int32 → Me → Option (Int32 × Me)) (v27 : Int32) (m28 : Me) : Option (Int32 × Me) := if (m28.1 200 1) ≤ v27 then (k191_ m28) else bd (fun (m29 : Me) => bd (v27 + 1) (fun v30 => (s29 v30 m29))) (fun k185_ => ((fx (lb_Mo_findParts_39 v27 k185_) (fun _ _ => none) FU) (0 : Int32) m28))
def lb_Mo_findParts_6 (k27_ : Me → Option (Int32 × Me)) (s6 : Int32 → Me → Option (Int32 × Me)) (v56 : Int32) (m57 : Me) : Option (Int32 × Me) := if (m57.1 200 1) ≤ v56 then (k27_ m57) else wi m57 213 (ln 213) v56 v56 (fun m58 => bd (v56 + 1) (fun v59 => (s6 v59 m58)))
def f_Mo_findParts  (m : Me) : Option (Int32 × Me) := cP (f_Mo_findOpen m) (fun m1 => bd (fun (m2 : Me) => bd (fun (m3 : Me) => bd (fun (v4 : Int32) (m5 : Me) => ((fx (lb_Mo_findParts_268 v4) (fun _ _ => none) FU) (0 : Int32) m5)) (fun k266_ => ((fx (lb_Mo_findParts_195 k266_) (fun _ _ _ => none) FU) (0 : Int32) (0 : Int32) m3))) (fun k191_ => ((fx (lb_Mo_findParts_29 k191_) (fun _ _ => none) FU) (0 : Int32) m2))) (fun k27_ => ((fx (lb_Mo_findParts_6 k27_) (fun _ _ => none) FU) (0 : Int32) m1)))
set_option maxHeartbeats 4000000 in
set_option maxRecDepth 100000 in
theorem c_Mo_findParts   (m : Me) (r : Int32) (m' : Me) (h : f_Mo_findParts  m = some (r, m')) : Ct yX8_findParts cX8_findParts 6 (some .int) 5 (fun ad => [.ref (ad 200)]) m (fun ad => (some (.int r), m')) := by
  refine mk_ct (F := f_Mo_findParts  m) (fun _ => oI) (r, m') h (fun _ => rfl) (by decide) (fun _ => Nat.le_of_ble_eq_true rfl) ?_
  intro X hX hE
  show J X oI (f_Mo_findParts  m) m 0 [(0, rX X 200)] []
  unfold f_Mo_findParts
  refine r_aload_n (pc := 0) hX 0 dX8_findParts_0 rfl rfl ?_
  refine r_cvV (st := []) (pc := 1) hX dX8_findParts_1 MI_Mo_findOpen MV_Mo_findOpen lkX8_208 k200 (c_Mo_findOpen m) rfl rfl (Nat.le_of_ble_eq_true rfl) (by decide) (fun m1 => ?_)
  refine r_iconst (pc := 4) hX dX8_findParts_4 ic_0 ?_
  refine r_istore_n (L' := [(1, .int (0 : Int32)), (0, rX X 200)]) (pc := 5) hX dX8_findParts_5 rfl (by decide) rfl ?_
  refine r_join (P := fun k => ∀ (m2 : Me), J X oI (k m2) m2 27 [(0, rX X 200)] []) ?_ ?_
  · intro m2
    refine r_iconst (pc := 27) hX dX8_findParts_27 ic_0 ?_
    refine r_istore_n (L' := [(1, .int (0 : Int32)), (0, rX X 200)]) (pc := 28) hX dX8_findParts_28 rfl (by decide) rfl ?_
    refine r_join (P := fun k => ∀ (m3 : Me), J X oI (k m3) m3 191 [(0, rX X 200)] []) ?_ ?_
    · intro m3
      refine r_iconst (pc := 191) hX dX8_findParts_191 ic_0 ?_
      refine r_istore_n (L' := [(1, .int (0 : Int32)), (0, rX X 200)]) (pc := 192) hX dX8_findParts_192 rfl (by decide) rfl ?_
      refine r_iconst (pc := 193) hX dX8_findParts_193 ic_0 ?_
      refine r_istore_n (L' := [(2, .int (0 : Int32)), (1, .int (0 : Int32)), (0, rX X 200)]) (pc := 194) hX dX8_findParts_194 rfl (by decide) rfl ?_
      refine r_join (P := fun k => ∀ (v4 : Int32) (m5 : Me), J X oI (k v4 m5) m5 266 [(0, rX X 200), (1, .int v4)] []) ?_ ?_
      · intro v4 m5
        refine r_iconst (pc := 266) hX dX8_findParts_266 ic_0 ?_
        refine r_istore_n (L' := [(2, .int (0 : Int32)), (0, rX X 200), (1, .int v4)]) (pc := 267) hX dX8_findParts_267 rfl (by decide) rfl ?_
        have hl268 : ∀ n : Nat, ∀ (v6 : Int32) (m7 : Me), J X oI (fx (lb_Mo_findParts_268 v4) (fun _ _ => none) n v6 m7) m7 268 [(0, rX X 200), (1, .int v4), (2, .int v6)] [] := by
          refine fx_ind (fun (f : Int32 → Me → Option (Int32 × Me)) => ∀ (v6 : Int32) (m7 : Me), J X oI (f v6 m7) m7 268 [(0, rX X 200), (1, .int v4), (2, .int v6)] []) (fun _ _ => r_none) ?_
          intro s268 hs268 v6 m7
          unfold lb_Mo_findParts_268
          refine r_iload_n (pc := 268) hX 2 dX8_findParts_268 rfl rfl ?_
          refine r_aload_n (pc := 269) hX 0 dX8_findParts_269 rfl rfl ?_
          refine r_getI (pc := 270) hX dX8_findParts_270 fp8_88 k200 (by decide) ?_
          refine r_icmp_ge (tgt := 296) (pc := 273) hX dX8_findParts_273 (by decide) ?_ ?_
          · skip
            refine r_iload_n (pc := 296) hX 1 dX8_findParts_296 rfl rfl ?_
            exact r_iretI (pc := 297) hX hE dX8_findParts_297
          · skip
            refine r_aload_n (pc := 276) hX 0 dX8_findParts_276 rfl rfl ?_
            refine r_getR (pc := 277) hX dX8_findParts_277 fp8_47 k200 rfl g200_26 ?_
            refine r_iload_n (pc := 280) hX 2 dX8_findParts_280 rfl rfl ?_
            refine r_iconst (pc := 281) hX dX8_findParts_281 ic_m1 ?_
            refine r_aload_n (pc := 282) hX 0 dX8_findParts_282 rfl rfl ?_
            refine r_getR (pc := 283) hX dX8_findParts_283 fp8_47 k200 rfl g200_26 ?_
            refine r_iload_n (pc := 286) hX 2 dX8_findParts_286 rfl rfl ?_
            refine r_iald (pc := 287) hX dX8_findParts_287 k213 (fun v8 => ?_)
            refine r_isub (pc := 288) hX dX8_findParts_288 ?_
            refine r_iast (pc := 289) hX dX8_findParts_289 k213 (fun m9 => ?_)
            refine r_iincN (L' := fun w => [(2, .int w), (0, rX X 200), (1, .int v4)]) (pc := 290) hX 2 dX8_findParts_290 rfl rfl (by decide) (fun _ => rfl) (fun v10 => ?_)
            refine r_goto (tgt := 268) (pc := 293) hX dX8_findParts_293 (by decide) ?_
            exact r_sub [1, 2, 0] rfl (hs268 v10 m9)
        exact r_sub [1, 2, 0] rfl (hl268 FU (0 : Int32) m5)
      intro k266_ hk266_
      have hl195 : ∀ n : Nat, ∀ (v11 : Int32) (v12 : Int32) (m13 : Me), J X oI (fx (lb_Mo_findParts_195 k266_) (fun _ _ _ => none) n v11 v12 m13) m13 195 [(0, rX X 200), (1, .int v11), (2, .int v12)] [] := by
        refine fx_ind (fun (f : Int32 → Int32 → Me → Option (Int32 × Me)) => ∀ (v11 : Int32) (v12 : Int32) (m13 : Me), J X oI (f v11 v12 m13) m13 195 [(0, rX X 200), (1, .int v11), (2, .int v12)] []) (fun _ _ _ => r_none) ?_
        intro s195 hs195 v11 v12 m13
        unfold lb_Mo_findParts_195
        refine r_iload_n (pc := 195) hX 2 dX8_findParts_195 rfl rfl ?_
        refine r_aload_n (pc := 196) hX 0 dX8_findParts_196 rfl rfl ?_
        refine r_getI (pc := 197) hX dX8_findParts_197 fp8_88 k200 (by decide) ?_
        refine r_icmp_ge (tgt := 266) (pc := 200) hX dX8_findParts_200 (by decide) ?_ ?_
        · skip
          exact r_sub [0, 1] rfl (hk266_ v11 m13)
        · skip
          refine r_aload_n (pc := 203) hX 0 dX8_findParts_203 rfl rfl ?_
          refine r_getR (pc := 204) hX dX8_findParts_204 fp8_47 k200 rfl g200_26 ?_
          refine r_iload_n (pc := 207) hX 2 dX8_findParts_207 rfl rfl ?_
          refine r_iald (pc := 208) hX dX8_findParts_208 k213 (fun v14 => ?_)
          refine r_iload_n (pc := 209) hX 2 dX8_findParts_209 rfl rfl ?_
          refine r_join (P := fun k => ∀ (v15 : Int32) (m16 : Me), J X oI (k v15 m16) m16 260 [(0, rX X 200), (1, .int v15), (2, .int v12)] []) ?_ ?_
          · intro v15 m16
            refine r_iincN (L' := fun w => [(2, .int w), (0, rX X 200), (1, .int v15)]) (pc := 260) hX 2 dX8_findParts_260 rfl rfl (by decide) (fun _ => rfl) (fun v17 => ?_)
            refine r_goto (tgt := 195) (pc := 263) hX dX8_findParts_263 (by decide) ?_
            exact r_sub [1, 2, 0] rfl (hs195 v15 v17 m16)
          intro k260_ hk260_
          refine r_icmp_ne (tgt := 260) (pc := 210) hX dX8_findParts_210 (by decide) ?_ ?_
          · skip
            exact hk260_ v11 m13
          · skip
            refine r_iload_n (pc := 213) hX 2 dX8_findParts_213 rfl rfl ?_
            refine r_istore_n (L' := [(3, .int v12), (0, rX X 200), (1, .int v11), (2, .int v12)]) (pc := 214) hX dX8_findParts_214 rfl (by decide) rfl ?_
            refine r_join (P := fun k => ∀ (m18 : Me), J X oI (k m18) m18 257 [(0, rX X 200), (1, .int v11), (2, .int v12)] []) ?_ ?_
            · intro m18
              refine r_iincN (L' := fun w => [(1, .int w), (0, rX X 200), (2, .int v12)]) (pc := 257) hX 1 dX8_findParts_257 rfl rfl (by decide) (fun _ => rfl) (fun v19 => ?_)
              exact r_sub [1, 0, 2] rfl (hk260_ v19 m18)
            intro k257_ hk257_
            have hl215 : ∀ n : Nat, ∀ (v20 : Int32) (m21 : Me), J X oI (fx (lb_Mo_findParts_215 v11 v12 k257_) (fun _ _ => none) n v20 m21) m21 215 [(0, rX X 200), (1, .int v11), (2, .int v12), (3, .int v20)] [] := by
              refine fx_ind (fun (f : Int32 → Me → Option (Int32 × Me)) => ∀ (v20 : Int32) (m21 : Me), J X oI (f v20 m21) m21 215 [(0, rX X 200), (1, .int v11), (2, .int v12), (3, .int v20)] []) (fun _ _ => r_none) ?_
              intro s215 hs215 v20 m21
              unfold lb_Mo_findParts_215
              refine r_iload_n (pc := 215) hX 3 dX8_findParts_215 rfl rfl ?_
              refine r_aload_n (pc := 216) hX 0 dX8_findParts_216 rfl rfl ?_
              refine r_getI (pc := 217) hX dX8_findParts_217 fp8_88 k200 (by decide) ?_
              refine r_icmp_ge (tgt := 257) (pc := 220) hX dX8_findParts_220 (by decide) ?_ ?_
              · skip
                exact r_sub [0, 1, 2] rfl (hk257_ m21)
              · skip
                refine r_aload_n (pc := 223) hX 0 dX8_findParts_223 rfl rfl ?_
                refine r_getR (pc := 224) hX dX8_findParts_224 fp8_47 k200 rfl g200_26 ?_
                refine r_iload_n (pc := 227) hX 3 dX8_findParts_227 rfl rfl ?_
                refine r_aload_n (pc := 228) hX 0 dX8_findParts_228 rfl rfl ?_
                refine r_getR (pc := 229) hX dX8_findParts_229 fp8_47 k200 rfl g200_26 ?_
                refine r_iload_n (pc := 232) hX 3 dX8_findParts_232 rfl rfl ?_
                refine r_iald (pc := 233) hX dX8_findParts_233 k213 (fun v22 => ?_)
                refine r_iload_n (pc := 234) hX 2 dX8_findParts_234 rfl rfl ?_
                refine r_join (P := fun k => ∀ (v23 : Int32), J X oI (k v23) m21 250 [(0, rX X 200), (1, .int v11), (2, .int v12), (3, .int v20)] [.int v23, .int v20, rX X 213]) ?_ ?_
                · intro v23
                  refine r_iast (pc := 250) hX dX8_findParts_250 k213 (fun m24 => ?_)
                  refine r_iincN (L' := fun w => [(3, .int w), (0, rX X 200), (1, .int v11), (2, .int v12)]) (pc := 251) hX 3 dX8_findParts_251 rfl rfl (by decide) (fun _ => rfl) (fun v25 => ?_)
                  refine r_goto (tgt := 215) (pc := 254) hX dX8_findParts_254 (by decide) ?_
                  exact r_sub [1, 2, 3, 0] rfl (hs215 v25 m24)
                intro k250_ hk250_
                refine r_icmp_ne (tgt := 244) (pc := 235) hX dX8_findParts_235 (by decide) ?_ ?_
                · skip
                  refine r_aload_n (pc := 244) hX 0 dX8_findParts_244 rfl rfl ?_
                  refine r_getR (pc := 245) hX dX8_findParts_245 fp8_47 k200 rfl g200_26 ?_
                  refine r_iload_n (pc := 248) hX 3 dX8_findParts_248 rfl rfl ?_
                  refine r_iald (pc := 249) hX dX8_findParts_249 k213 (fun v26 => ?_)
                  exact hk250_ v26
                · skip
                  refine r_iconst (pc := 238) hX dX8_findParts_238 ic_m1 ?_
                  refine r_iload_n (pc := 239) hX 1 dX8_findParts_239 rfl rfl ?_
                  refine r_isub (pc := 240) hX dX8_findParts_240 ?_
                  refine r_goto (tgt := 250) (pc := 241) hX dX8_findParts_241 (by decide) ?_
                  exact hk250_ (((-1 : Int32) - v11))
            exact r_sub [1, 2, 3, 0] rfl (hl215 FU v12 m13)
      exact r_sub [2, 1, 0] rfl (hl195 FU (0 : Int32) (0 : Int32) m3)
    intro k191_ hk191_
    have hl29 : ∀ n : Nat, ∀ (v27 : Int32) (m28 : Me), J X oI (fx (lb_Mo_findParts_29 k191_) (fun _ _ => none) n v27 m28) m28 29 [(0, rX X 200), (1, .int v27)] [] := by
      refine fx_ind (fun (f : Int32 → Me → Option (Int32 × Me)) => ∀ (v27 : Int32) (m28 : Me), J X oI (f v27 m28) m28 29 [(0, rX X 200), (1, .int v27)] []) (fun _ _ => r_none) ?_
      intro s29 hs29 v27 m28
      unfold lb_Mo_findParts_29
      refine r_iload_n (pc := 29) hX 1 dX8_findParts_29 rfl rfl ?_
      refine r_aload_n (pc := 30) hX 0 dX8_findParts_30 rfl rfl ?_
      refine r_getI (pc := 31) hX dX8_findParts_31 fp8_88 k200 (by decide) ?_
      refine r_icmp_ge (tgt := 191) (pc := 34) hX dX8_findParts_34 (by decide) ?_ ?_
      · skip
        exact r_sub [0] rfl (hk191_ m28)
      · skip
        refine r_iconst (pc := 37) hX dX8_findParts_37 ic_0 ?_
        refine r_istore_n (L' := [(2, .int (0 : Int32)), (0, rX X 200), (1, .int v27)]) (pc := 38) hX dX8_findParts_38 rfl (by decide) rfl ?_
        refine r_join (P := fun k => ∀ (m29 : Me), J X oI (k m29) m29 185 [(0, rX X 200), (1, .int v27)] []) ?_ ?_
        · intro m29
          refine r_iincN (L' := fun w => [(1, .int w), (0, rX X 200)]) (pc := 185) hX 1 dX8_findParts_185 rfl rfl (by decide) (fun _ => rfl) (fun v30 => ?_)
          refine r_goto (tgt := 29) (pc := 188) hX dX8_findParts_188 (by decide) ?_
          exact r_sub [1, 0] rfl (hs29 v30 m29)
        intro k185_ hk185_
        have hl39 : ∀ n : Nat, ∀ (v31 : Int32) (m32 : Me), J X oI (fx (lb_Mo_findParts_39 v27 k185_) (fun _ _ => none) n v31 m32) m32 39 [(0, rX X 200), (1, .int v27), (2, .int v31)] [] := by
          refine fx_ind (fun (f : Int32 → Me → Option (Int32 × Me)) => ∀ (v31 : Int32) (m32 : Me), J X oI (f v31 m32) m32 39 [(0, rX X 200), (1, .int v27), (2, .int v31)] []) (fun _ _ => r_none) ?_
          intro s39 hs39 v31 m32
          unfold lb_Mo_findParts_39
          refine r_iload_n (pc := 39) hX 2 dX8_findParts_39 rfl rfl ?_
          refine r_iload_n (pc := 40) hX 1 dX8_findParts_40 rfl rfl ?_
          refine r_icmp_ge (tgt := 185) (pc := 41) hX dX8_findParts_41 (by decide) ?_ ?_
          · skip
            exact r_sub [0, 1] rfl (hk185_ m32)
          · skip
            refine r_aload_n (pc := 44) hX 0 dX8_findParts_44 rfl rfl ?_
            refine r_getR (pc := 45) hX dX8_findParts_45 fp8_47 k200 rfl g200_26 ?_
            refine r_iload_n (pc := 48) hX 1 dX8_findParts_48 rfl rfl ?_
            refine r_iald (pc := 49) hX dX8_findParts_49 k213 (fun v33 => ?_)
            refine r_aload_n (pc := 50) hX 0 dX8_findParts_50 rfl rfl ?_
            refine r_getR (pc := 51) hX dX8_findParts_51 fp8_47 k200 rfl g200_26 ?_
            refine r_iload_n (pc := 54) hX 2 dX8_findParts_54 rfl rfl ?_
            refine r_iald (pc := 55) hX dX8_findParts_55 k213 (fun v34 => ?_)
            refine r_join (P := fun k => ∀ (m35 : Me), J X oI (k m35) m35 179 [(0, rX X 200), (1, .int v27), (2, .int v31)] []) ?_ ?_
            · intro m35
              refine r_iincN (L' := fun w => [(2, .int w), (0, rX X 200), (1, .int v27)]) (pc := 179) hX 2 dX8_findParts_179 rfl rfl (by decide) (fun _ => rfl) (fun v36 => ?_)
              refine r_goto (tgt := 39) (pc := 182) hX dX8_findParts_182 (by decide) ?_
              exact r_sub [1, 2, 0] rfl (hs39 v36 m35)
            intro k179_ hk179_
            refine r_icmp_eq (tgt := 179) (pc := 56) hX dX8_findParts_56 (by decide) ?_ ?_
            · skip
              exact hk179_ m32
            · skip
              refine r_aload_n (pc := 59) hX 0 dX8_findParts_59 rfl rfl ?_
              refine r_iload_n (pc := 60) hX 1 dX8_findParts_60 rfl rfl ?_
              refine r_iload_n (pc := 61) hX 2 dX8_findParts_61 rfl rfl ?_
              refine r_cvI (st := []) (pc := 62) hX dX8_findParts_62 MI_Mo_touch MV_Mo_touch lkX8_211 k200 (c_Mo_touch v27 v31 m32) rfl rfl (Nat.le_of_ble_eq_true rfl) (by decide) (fun v37 m38 => ?_)
              refine r_if_eq (tgt := 179) (pc := 65) hX dX8_findParts_65 (by decide) ?_ ?_
              · skip
                exact hk179_ m38
              · skip
                refine r_aload_n (pc := 68) hX 0 dX8_findParts_68 rfl rfl ?_
                refine r_getR (pc := 69) hX dX8_findParts_69 fp8_47 k200 rfl g200_26 ?_
                refine r_iload_n (pc := 72) hX 1 dX8_findParts_72 rfl rfl ?_
                refine r_iald (pc := 73) hX dX8_findParts_73 k213 (fun v39 => ?_)
                refine r_aload_n (pc := 74) hX 0 dX8_findParts_74 rfl rfl ?_
                refine r_getR (pc := 75) hX dX8_findParts_75 fp8_47 k200 rfl g200_26 ?_
                refine r_iload_n (pc := 78) hX 2 dX8_findParts_78 rfl rfl ?_
                refine r_iald (pc := 79) hX dX8_findParts_79 k213 (fun v40 => ?_)
                refine r_join (P := fun k => ∀ (v41 : Int32), J X oI (k v41) m38 98 [(0, rX X 200), (1, .int v27), (2, .int v31)] [.int v41]) ?_ ?_
                · intro v41
                  refine r_istore_n (L' := [(3, .int v41), (0, rX X 200), (1, .int v27), (2, .int v31)]) (pc := 98) hX dX8_findParts_98 rfl (by decide) rfl ?_
                  refine r_aload_n (pc := 99) hX 1 dX8_findParts_99 rfl rfl ?_
                  refine r_getR (pc := 100) hX dX8_findParts_100 fp8_47 k200 rfl g200_26 ?_
                  refine r_iload_n (pc := 103) hX 2 dX8_findParts_103 rfl rfl ?_
                  refine r_iald (pc := 104) hX dX8_findParts_104 k213 (fun v42 => ?_)
                  refine r_aload_n (pc := 105) hX 1 dX8_findParts_105 rfl rfl ?_
                  refine r_getR (pc := 106) hX dX8_findParts_106 fp8_47 k200 rfl g200_26 ?_
                  refine r_iload_n (pc := 109) hX 3 dX8_findParts_109 rfl rfl ?_
                  refine r_iald (pc := 110) hX dX8_findParts_110 k213 (fun v43 => ?_)
                  refine r_join (P := fun k => ∀ (v44 : Int32), J X oI (k v44) m38 129 [(0, rX X 200), (1, .int v27), (2, .int v31), (3, .int v41)] [.int v44]) ?_ ?_
                  · intro v44
                    refine r_istore (L' := [(4, .int v44), (0, rX X 200), (1, .int v27), (2, .int v31), (3, .int v41)]) (pc := 129) hX dX8_findParts_129 (by decide) rfl ?_
                    refine r_iconst (pc := 131) hX dX8_findParts_131 ic_0 ?_
                    refine r_istore (L' := [(5, .int (0 : Int32)), (4, .int v44), (0, rX X 200), (1, .int v27), (2, .int v31), (3, .int v41)]) (pc := 132) hX dX8_findParts_132 (by decide) rfl ?_
                    have hl134 : ∀ n : Nat, ∀ (v45 : Int32) (m46 : Me), J X oI (fx (lb_Mo_findParts_134 k179_ v41 v44) (fun _ _ => none) n v45 m46) m46 134 [(0, rX X 200), (1, .int v27), (2, .int v31), (3, .int v41), (4, .int v44), (5, .int v45)] [] := by
                      refine fx_ind (fun (f : Int32 → Me → Option (Int32 × Me)) => ∀ (v45 : Int32) (m46 : Me), J X oI (f v45 m46) m46 134 [(0, rX X 200), (1, .int v27), (2, .int v31), (3, .int v41), (4, .int v44), (5, .int v45)] []) (fun _ _ => r_none) ?_
                      intro s134 hs134 v45 m46
                      unfold lb_Mo_findParts_134
                      refine r_iload (pc := 134) hX 5 dX8_findParts_134 rfl ?_
                      refine r_aload_n (pc := 136) hX 0 dX8_findParts_136 rfl rfl ?_
                      refine r_getI (pc := 137) hX dX8_findParts_137 fp8_88 k200 (by decide) ?_
                      refine r_icmp_ge (tgt := 179) (pc := 140) hX dX8_findParts_140 (by decide) ?_ ?_
                      · skip
                        exact r_sub [0, 1, 2] rfl (hk179_ m46)
                      · skip
                        refine r_aload_n (pc := 143) hX 0 dX8_findParts_143 rfl rfl ?_
                        refine r_getR (pc := 144) hX dX8_findParts_144 fp8_47 k200 rfl g200_26 ?_
                        refine r_iload (pc := 147) hX 5 dX8_findParts_147 rfl ?_
                        refine r_aload_n (pc := 149) hX 0 dX8_findParts_149 rfl rfl ?_
                        refine r_getR (pc := 150) hX dX8_findParts_150 fp8_47 k200 rfl g200_26 ?_
                        refine r_iload (pc := 153) hX 5 dX8_findParts_153 rfl ?_
                        refine r_iald (pc := 155) hX dX8_findParts_155 k213 (fun v47 => ?_)
                        refine r_iload_n (pc := 156) hX 3 dX8_findParts_156 rfl rfl ?_
                        refine r_join (P := fun k => ∀ (v48 : Int32), J X oI (k v48) m46 172 [(0, rX X 200), (1, .int v27), (2, .int v31), (3, .int v41), (4, .int v44), (5, .int v45)] [.int v48, .int v45, rX X 213]) ?_ ?_
                        · intro v48
                          refine r_iast (pc := 172) hX dX8_findParts_172 k213 (fun m49 => ?_)
                          refine r_iincN (L' := fun w => [(5, .int w), (0, rX X 200), (1, .int v27), (2, .int v31), (3, .int v41), (4, .int v44)]) (pc := 173) hX 5 dX8_findParts_173 rfl rfl (by decide) (fun _ => rfl) (fun v50 => ?_)
                          refine r_goto (tgt := 134) (pc := 176) hX dX8_findParts_176 (by decide) ?_
                          exact r_sub [1, 2, 3, 4, 5, 0] rfl (hs134 v50 m49)
                        intro k172_ hk172_
                        refine r_icmp_ne (tgt := 165) (pc := 157) hX dX8_findParts_157 (by decide) ?_ ?_
                        · skip
                          refine r_aload_n (pc := 165) hX 0 dX8_findParts_165 rfl rfl ?_
                          refine r_getR (pc := 166) hX dX8_findParts_166 fp8_47 k200 rfl g200_26 ?_
                          refine r_iload (pc := 169) hX 5 dX8_findParts_169 rfl ?_
                          refine r_iald (pc := 171) hX dX8_findParts_171 k213 (fun v51 => ?_)
                          exact hk172_ v51
                        · skip
                          refine r_iload (pc := 160) hX 4 dX8_findParts_160 rfl ?_
                          refine r_goto (tgt := 172) (pc := 162) hX dX8_findParts_162 (by decide) ?_
                          exact hk172_ v44
                    exact r_sub [2, 3, 4, 5, 1, 0] rfl (hl134 FU (0 : Int32) m38)
                  intro k129_ hk129_
                  refine r_icmp_le (tgt := 123) (pc := 111) hX dX8_findParts_111 (by decide) ?_ ?_
                  · skip
                    refine r_aload_n (pc := 123) hX 1 dX8_findParts_123 rfl rfl ?_
                    refine r_getR (pc := 124) hX dX8_findParts_124 fp8_47 k200 rfl g200_26 ?_
                    refine r_iload_n (pc := 127) hX 2 dX8_findParts_127 rfl rfl ?_
                    refine r_iald (pc := 128) hX dX8_findParts_128 k213 (fun v52 => ?_)
                    exact r_sub [1, 2, 3, 0] rfl (hk129_ v52)
                  · skip
                    refine r_aload_n (pc := 114) hX 1 dX8_findParts_114 rfl rfl ?_
                    refine r_getR (pc := 115) hX dX8_findParts_115 fp8_47 k200 rfl g200_26 ?_
                    refine r_iload_n (pc := 118) hX 3 dX8_findParts_118 rfl rfl ?_
                    refine r_iald (pc := 119) hX dX8_findParts_119 k213 (fun v53 => ?_)
                    refine r_goto (tgt := 129) (pc := 120) hX dX8_findParts_120 (by decide) ?_
                    exact r_sub [1, 2, 3, 0] rfl (hk129_ v53)
                intro k98_ hk98_
                refine r_icmp_le (tgt := 92) (pc := 80) hX dX8_findParts_80 (by decide) ?_ ?_
                · skip
                  refine r_aload_n (pc := 92) hX 0 dX8_findParts_92 rfl rfl ?_
                  refine r_getR (pc := 93) hX dX8_findParts_93 fp8_47 k200 rfl g200_26 ?_
                  refine r_iload_n (pc := 96) hX 2 dX8_findParts_96 rfl rfl ?_
                  refine r_iald (pc := 97) hX dX8_findParts_97 k213 (fun v54 => ?_)
                  exact hk98_ v54
                · skip
                  refine r_aload_n (pc := 83) hX 0 dX8_findParts_83 rfl rfl ?_
                  refine r_getR (pc := 84) hX dX8_findParts_84 fp8_47 k200 rfl g200_26 ?_
                  refine r_iload_n (pc := 87) hX 1 dX8_findParts_87 rfl rfl ?_
                  refine r_iald (pc := 88) hX dX8_findParts_88 k213 (fun v55 => ?_)
                  refine r_goto (tgt := 98) (pc := 89) hX dX8_findParts_89 (by decide) ?_
                  exact hk98_ v55
        exact r_sub [1, 2, 0] rfl (hl39 FU (0 : Int32) m28)
    exact r_sub [1, 0] rfl (hl29 FU (0 : Int32) m2)
  intro k27_ hk27_
  have hl6 : ∀ n : Nat, ∀ (v56 : Int32) (m57 : Me), J X oI (fx (lb_Mo_findParts_6 k27_) (fun _ _ => none) n v56 m57) m57 6 [(0, rX X 200), (1, .int v56)] [] := by
    refine fx_ind (fun (f : Int32 → Me → Option (Int32 × Me)) => ∀ (v56 : Int32) (m57 : Me), J X oI (f v56 m57) m57 6 [(0, rX X 200), (1, .int v56)] []) (fun _ _ => r_none) ?_
    intro s6 hs6 v56 m57
    unfold lb_Mo_findParts_6
    refine r_iload_n (pc := 6) hX 1 dX8_findParts_6 rfl rfl ?_
    refine r_aload_n (pc := 7) hX 0 dX8_findParts_7 rfl rfl ?_
    refine r_getI (pc := 8) hX dX8_findParts_8 fp8_88 k200 (by decide) ?_
    refine r_icmp_ge (tgt := 27) (pc := 11) hX dX8_findParts_11 (by decide) ?_ ?_
    · skip
      exact r_sub [0] rfl (hk27_ m57)
    · skip
      refine r_aload_n (pc := 14) hX 0 dX8_findParts_14 rfl rfl ?_
      refine r_getR (pc := 15) hX dX8_findParts_15 fp8_47 k200 rfl g200_26 ?_
      refine r_iload_n (pc := 18) hX 1 dX8_findParts_18 rfl rfl ?_
      refine r_iload_n (pc := 19) hX 1 dX8_findParts_19 rfl rfl ?_
      refine r_iast (pc := 20) hX dX8_findParts_20 k213 (fun m58 => ?_)
      refine r_iincN (L' := fun w => [(1, .int w), (0, rX X 200)]) (pc := 21) hX 1 dX8_findParts_21 rfl rfl (by decide) (fun _ => rfl) (fun v59 => ?_)
      refine r_goto (tgt := 6) (pc := 24) hX dX8_findParts_24 (by decide) ?_
      exact r_sub [1, 0] rfl (hs6 v59 m58)
  exact r_sub [1, 0] rfl (hl6 FU (0 : Int32) m1)
def f_Mo_parts  (m : Me) : Option (Int32 × Me) := bd (si m 200 0 (0 : Int32)) (fun m1 => cI (f_Mo_findParts m1) (fun v2 m3 => some (v2, m3)))
set_option maxHeartbeats 4000000 in
set_option maxRecDepth 100000 in
theorem c_Mo_parts   (m : Me) (r : Int32) (m' : Me) (h : f_Mo_parts  m = some (r, m')) : Ct yX8_parts cX8_parts 1 (some .int) 6 (fun ad => [.ref (ad 200)]) m (fun ad => (some (.int r), m')) := by
  refine mk_ct (F := f_Mo_parts  m) (fun _ => oI) (r, m') h (fun _ => rfl) (by decide) (fun _ => Nat.le_of_ble_eq_true rfl) ?_
  intro X hX hE
  show J X oI (f_Mo_parts  m) m 0 [(0, rX X 200)] []
  unfold f_Mo_parts
  refine r_aload_n (pc := 0) hX 0 dX8_parts_0 rfl rfl ?_
  refine r_iconst (pc := 1) hX dX8_parts_1 ic_0 ?_
  refine r_putI (pc := 2) hX dX8_parts_2 fp8_78 k200 (fun m1 => ?_)
  refine r_aload_n (pc := 5) hX 0 dX8_parts_5 rfl rfl ?_
  refine r_cvI (st := []) (pc := 6) hX dX8_parts_6 MI_Mo_findParts MV_Mo_findParts lkX8_214 k200 (c_Mo_findParts m1) rfl rfl (Nat.le_of_ble_eq_true rfl) (by decide) (fun v2 m3 => ?_)
  exact r_iretI (pc := 9) hX hE dX8_parts_9
def lb_Mo_most_20 (m2 : Me) (v4 : Int32) (k56_ : Int32 → Option (Int32 × Me)) (s20 : Int32 → Int32 → Option (Int32 × Me)) (v8 : Int32) (v9 : Int32) : Option (Int32 × Me) := if (m2.1 200 1) ≤ v9 then (k56_ v8) else rd (ln 213) v9 (m2.1 213) (fun v10 => bd (fun (v11 : Int32) => bd ((v8 + v11)) (fun v12 => bd (v9 + 1) (fun v13 => (s20 v12 v13)))) (fun k47_ => if v10 = v4 then (k47_ (1 : Int32)) else (k47_ (0 : Int32))))
def lb_Mo_most_9 (m2 : Me) (v1 : Int32) (s9 : Int32 → Int32 → Option (Int32 × Me)) (v3 : Int32) (v4 : Int32) : Option (Int32 × Me) := if v1 ≤ v4 then some (v3, m2) else bd (fun (v5 : Int32) => bd (fun (v6 : Int32) => bd (v4 + 1) (fun v7 => (s9 v6 v7))) (fun k68_ => if v5 ≤ v3 then (k68_ v3) else (k68_ v5))) (fun k56_ => ((fx (lb_Mo_most_20 m2 v4 k56_) (fun _ _ => none) FU) (0 : Int32) (0 : Int32)))
def f_Mo_most  (m : Me) : Option (Int32 × Me) := cI (f_Mo_findParts m) (fun v1 m2 => ((fx (lb_Mo_most_9 m2 v1) (fun _ _ => none) FU) (0 : Int32) (0 : Int32)))
set_option maxHeartbeats 4000000 in
set_option maxRecDepth 100000 in
theorem c_Mo_most   (m : Me) (r : Int32) (m' : Me) (h : f_Mo_most  m = some (r, m')) : Ct yX8_most cX8_most 6 (some .int) 6 (fun ad => [.ref (ad 200)]) m (fun ad => (some (.int r), m')) := by
  refine mk_ct (F := f_Mo_most  m) (fun _ => oI) (r, m') h (fun _ => rfl) (by decide) (fun _ => Nat.le_of_ble_eq_true rfl) ?_
  intro X hX hE
  show J X oI (f_Mo_most  m) m 0 [(0, rX X 200)] []
  unfold f_Mo_most
  refine r_aload_n (pc := 0) hX 0 dX8_most_0 rfl rfl ?_
  refine r_cvI (st := []) (pc := 1) hX dX8_most_1 MI_Mo_findParts MV_Mo_findParts lkX8_214 k200 (c_Mo_findParts m) rfl rfl (Nat.le_of_ble_eq_true rfl) (by decide) (fun v1 m2 => ?_)
  refine r_istore_n (L' := [(1, .int v1), (0, rX X 200)]) (pc := 4) hX dX8_most_4 rfl (by decide) rfl ?_
  refine r_iconst (pc := 5) hX dX8_most_5 ic_0 ?_
  refine r_istore_n (L' := [(2, .int (0 : Int32)), (1, .int v1), (0, rX X 200)]) (pc := 6) hX dX8_most_6 rfl (by decide) rfl ?_
  refine r_iconst (pc := 7) hX dX8_most_7 ic_0 ?_
  refine r_istore_n (L' := [(3, .int (0 : Int32)), (2, .int (0 : Int32)), (1, .int v1), (0, rX X 200)]) (pc := 8) hX dX8_most_8 rfl (by decide) rfl ?_
  have hl9 : ∀ n : Nat, ∀ (v3 : Int32) (v4 : Int32), J X oI (fx (lb_Mo_most_9 m2 v1) (fun _ _ => none) n v3 v4) m2 9 [(0, rX X 200), (1, .int v1), (2, .int v3), (3, .int v4)] [] := by
    refine fx_ind (fun (f : Int32 → Int32 → Option (Int32 × Me)) => ∀ (v3 : Int32) (v4 : Int32), J X oI (f v3 v4) m2 9 [(0, rX X 200), (1, .int v1), (2, .int v3), (3, .int v4)] []) (fun _ _ => r_none) ?_
    intro s9 hs9 v3 v4
    unfold lb_Mo_most_9
    refine r_iload_n (pc := 9) hX 3 dX8_most_9 rfl rfl ?_
    refine r_iload_n (pc := 10) hX 1 dX8_most_10 rfl rfl ?_
    refine r_icmp_ge (tgt := 75) (pc := 11) hX dX8_most_11 (by decide) ?_ ?_
    · skip
      refine r_iload_n (pc := 75) hX 2 dX8_most_75 rfl rfl ?_
      exact r_iretI (pc := 76) hX hE dX8_most_76
    · skip
      refine r_iconst (pc := 14) hX dX8_most_14 ic_0 ?_
      refine r_istore (L' := [(4, .int (0 : Int32)), (0, rX X 200), (1, .int v1), (2, .int v3), (3, .int v4)]) (pc := 15) hX dX8_most_15 (by decide) rfl ?_
      refine r_iconst (pc := 17) hX dX8_most_17 ic_0 ?_
      refine r_istore (L' := [(5, .int (0 : Int32)), (4, .int (0 : Int32)), (0, rX X 200), (1, .int v1), (2, .int v3), (3, .int v4)]) (pc := 18) hX dX8_most_18 (by decide) rfl ?_
      refine r_join (P := fun k => ∀ (v5 : Int32), J X oI (k v5) m2 56 [(0, rX X 200), (1, .int v1), (2, .int v3), (3, .int v4), (4, .int v5)] []) ?_ ?_
      · intro v5
        refine r_iload (pc := 56) hX 4 dX8_most_56 rfl ?_
        refine r_iload_n (pc := 58) hX 2 dX8_most_58 rfl rfl ?_
        refine r_join (P := fun k => ∀ (v6 : Int32), J X oI (k v6) m2 68 [(0, rX X 200), (1, .int v1), (3, .int v4)] [.int v6]) ?_ ?_
        · intro v6
          refine r_istore_n (L' := [(2, .int v6), (0, rX X 200), (1, .int v1), (3, .int v4)]) (pc := 68) hX dX8_most_68 rfl (by decide) rfl ?_
          refine r_iincN (L' := fun w => [(3, .int w), (2, .int v6), (0, rX X 200), (1, .int v1)]) (pc := 69) hX 3 dX8_most_69 rfl rfl (by decide) (fun _ => rfl) (fun v7 => ?_)
          refine r_goto (tgt := 9) (pc := 72) hX dX8_most_72 (by decide) ?_
          exact r_sub [2, 3, 1, 0] rfl (hs9 v6 v7)
        intro k68_ hk68_
        refine r_icmp_le (tgt := 67) (pc := 59) hX dX8_most_59 (by decide) ?_ ?_
        · skip
          refine r_iload_n (pc := 67) hX 2 dX8_most_67 rfl rfl ?_
          exact r_sub [0, 1, 3] rfl (hk68_ v3)
        · skip
          refine r_iload (pc := 62) hX 4 dX8_most_62 rfl ?_
          refine r_goto (tgt := 68) (pc := 64) hX dX8_most_64 (by decide) ?_
          exact r_sub [0, 1, 3] rfl (hk68_ v5)
      intro k56_ hk56_
      have hl20 : ∀ n : Nat, ∀ (v8 : Int32) (v9 : Int32), J X oI (fx (lb_Mo_most_20 m2 v4 k56_) (fun _ _ => none) n v8 v9) m2 20 [(0, rX X 200), (1, .int v1), (2, .int v3), (3, .int v4), (4, .int v8), (5, .int v9)] [] := by
        refine fx_ind (fun (f : Int32 → Int32 → Option (Int32 × Me)) => ∀ (v8 : Int32) (v9 : Int32), J X oI (f v8 v9) m2 20 [(0, rX X 200), (1, .int v1), (2, .int v3), (3, .int v4), (4, .int v8), (5, .int v9)] []) (fun _ _ => r_none) ?_
        intro s20 hs20 v8 v9
        unfold lb_Mo_most_20
        refine r_iload (pc := 20) hX 5 dX8_most_20 rfl ?_
        refine r_aload_n (pc := 22) hX 0 dX8_most_22 rfl rfl ?_
        refine r_getI (pc := 23) hX dX8_most_23 fp8_88 k200 (by decide) ?_
        refine r_icmp_ge (tgt := 56) (pc := 26) hX dX8_most_26 (by decide) ?_ ?_
        · skip
          exact r_sub [0, 1, 2, 3, 4] rfl (hk56_ v8)
        · skip
          refine r_iload (pc := 29) hX 4 dX8_most_29 rfl ?_
          refine r_aload_n (pc := 31) hX 0 dX8_most_31 rfl rfl ?_
          refine r_getR (pc := 32) hX dX8_most_32 fp8_47 k200 rfl g200_26 ?_
          refine r_iload (pc := 35) hX 5 dX8_most_35 rfl ?_
          refine r_iald (pc := 37) hX dX8_most_37 k213 (fun v10 => ?_)
          refine r_iload_n (pc := 38) hX 3 dX8_most_38 rfl rfl ?_
          refine r_join (P := fun k => ∀ (v11 : Int32), J X oI (k v11) m2 47 [(0, rX X 200), (1, .int v1), (2, .int v3), (3, .int v4), (5, .int v9)] [.int v11, .int v8]) ?_ ?_
          · intro v11
            refine r_iadd (pc := 47) hX dX8_most_47 ?_
            refine r_nmI (fun v12 => ?_)
            refine r_istore (L' := [(4, .int v12), (0, rX X 200), (1, .int v1), (2, .int v3), (3, .int v4), (5, .int v9)]) (pc := 48) hX dX8_most_48 (by decide) rfl ?_
            refine r_iincN (L' := fun w => [(5, .int w), (4, .int v12), (0, rX X 200), (1, .int v1), (2, .int v3), (3, .int v4)]) (pc := 50) hX 5 dX8_most_50 rfl rfl (by decide) (fun _ => rfl) (fun v13 => ?_)
            refine r_goto (tgt := 20) (pc := 53) hX dX8_most_53 (by decide) ?_
            exact r_sub [2, 3, 4, 5, 1, 0] rfl (hs20 v12 v13)
          intro k47_ hk47_
          refine r_icmp_ne (tgt := 46) (pc := 39) hX dX8_most_39 (by decide) ?_ ?_
          · skip
            refine r_iconst (pc := 46) hX dX8_most_46 ic_0 ?_
            exact r_sub [0, 1, 2, 3, 5] rfl (hk47_ (0 : Int32))
          · skip
            refine r_iconst (pc := 42) hX dX8_most_42 ic_1 ?_
            refine r_goto (tgt := 47) (pc := 43) hX dX8_most_43 (by decide) ?_
            exact r_sub [0, 1, 2, 3, 5] rfl (hk47_ (1 : Int32))
      exact r_sub [2, 3, 4, 5, 1, 0] rfl (hl20 FU (0 : Int32) (0 : Int32))
  exact r_sub [3, 2, 1, 0] rfl (hl9 FU (0 : Int32) (0 : Int32))
def lb_Mo_about_127 (a0 : Int32) (s127 : Int32 → Int32 → Me → Option (Int32 × Me)) (v11 : Int32) (v12 : Int32) (m13 : Me) : Option (Int32 × Me) := cP (f_Mo_ways a0 m13) (fun v14 => if v14 ≤ v12 then some (v11, m13) else cI (f_Mo_isOpen a0 v12 (0 : Int32) m13) (fun v15 m16 => bd (fun (v17 : Int32) => bd ((v11 + v17)) (fun v18 => bd (v12 + 1) (fun v19 => (s127 v18 v19 m16)))) (fun k154_ => if v15 = 0 then (k154_ (0 : Int32)) else (k154_ (1 : Int32)))))
def f_Mo_about (a0 : Int32) (a1 : Int32) (m : Me) : Option (Int32 × Me) := bd (si m 200 0 (0 : Int32)) (fun m1 => cP (f_Mo_isName a0 m1) (fun v2 => if v2 = 0 then some ((-3 : Int32), m1) else cP (f_Mo_in a1 (0 : Int32) (8 : Int32) m1) (fun v3 => if v3 = 0 then some ((-3 : Int32), m1) else if a1 = (0 : Int32) then rd (ln 201) a0 (m1.1 201) (fun v4 => some (v4, m1)) else if a1 = (1 : Int32) then rd (ln 202) a0 (m1.1 202) (fun v5 => some (v5, m1)) else if a1 = (2 : Int32) then rd (ln 203) a0 (m1.1 203) (fun v6 => some (v6, m1)) else if a1 = (3 : Int32) then rd (ln 204) a0 (m1.1 204) (fun v7 => some (v7, m1)) else if a1 = (4 : Int32) then rd (ln 205) a0 (m1.1 205) (fun v8 => some (v8, m1)) else if a1 = (5 : Int32) then rd (ln 206) a0 (m1.1 206) (fun v9 => some (v9, m1)) else if a1 = (6 : Int32) then cP (f_Mo_ways a0 m1) (fun v10 => some (v10, m1)) else if a1 = (7 : Int32) then ((fx (lb_Mo_about_127 a0) (fun _ _ _ => none) FU) (0 : Int32) (0 : Int32) m1) else cI (f_Mo_findParts m1) (fun v20 m21 => rd (ln 213) a0 (m21.1 213) (fun v22 => some (v22, m21))))))
set_option maxHeartbeats 4000000 in
set_option maxRecDepth 100000 in
theorem c_Mo_about (a0 : Int32) (a1 : Int32)  (m : Me) (r : Int32) (m' : Me) (h : f_Mo_about a0 a1 m = some (r, m')) : Ct yX8_about cX8_about 5 (some .int) 6 (fun ad => [.ref (ad 200), .int a0, .int a1]) m (fun ad => (some (.int r), m')) := by
  refine mk_ct (F := f_Mo_about a0 a1 m) (fun _ => oI) (r, m') h (fun _ => rfl) (by decide) (fun _ => Nat.le_of_ble_eq_true rfl) ?_
  intro X hX hE
  show J X oI (f_Mo_about a0 a1 m) m 0 [(0, rX X 200), (1, .int a0), (2, .int a1)] []
  unfold f_Mo_about
  refine r_aload_n (pc := 0) hX 0 dX8_about_0 rfl rfl ?_
  refine r_iconst (pc := 1) hX dX8_about_1 ic_0 ?_
  refine r_putI (pc := 2) hX dX8_about_2 fp8_78 k200 (fun m1 => ?_)
  refine r_aload_n (pc := 5) hX 0 dX8_about_5 rfl rfl ?_
  refine r_iload_n (pc := 6) hX 1 dX8_about_6 rfl rfl ?_
  refine r_cvP (st := []) (pc := 7) hX dX8_about_7 MI_Mo_isName MV_Mo_isName lkX8_115 k200 (c_Mo_isName a0 m1) rfl rfl (Nat.le_of_ble_eq_true rfl) (by decide) (fun v2 => ?_)
  refine r_if_eq (tgt := 23) (pc := 10) hX dX8_about_10 (by decide) ?_ ?_
  · skip
    refine r_bipush (pc := 23) hX dX8_about_23 bp_m3 ?_
    exact r_iretI (pc := 25) hX hE dX8_about_25
  · skip
    refine r_iload_n (pc := 13) hX 2 dX8_about_13 rfl rfl ?_
    refine r_iconst (pc := 14) hX dX8_about_14 ic_0 ?_
    refine r_bipush (pc := 15) hX dX8_about_15 bp_8 ?_
    refine r_csP (st := []) (pc := 17) hX dX8_about_17 MI_Mo_in MS_Mo_in lkX8_104 (c_Mo_in a1 (0 : Int32) (8 : Int32) m1) rfl rfl (Nat.le_of_ble_eq_true rfl) (by decide) (fun v3 => ?_)
    refine r_if_ne (tgt := 26) (pc := 20) hX dX8_about_20 (by decide) ?_ ?_
    · skip
      refine r_iconst (pc := 26) hX dX8_about_26 ic_0 ?_
      refine r_istore_n (L' := [(3, .int (0 : Int32)), (0, rX X 200), (1, .int a0), (2, .int a1)]) (pc := 27) hX dX8_about_27 rfl (by decide) rfl ?_
      refine r_iload_n (pc := 28) hX 3 dX8_about_28 rfl rfl ?_
      refine r_ite (fun hs0 => ?_) (fun hs0 => ?_)
      · refine r_swIn (tgt := 76) (pc := 29) hX dX8_about_29 (by rw [hs0]; decide) (by rw [hs0]; decide) (by rw [hs0]; rfl) (by decide) ?_
        refine r_aload_n (pc := 76) hX 1 dX8_about_76 rfl rfl ?_
        refine r_getR (pc := 77) hX dX8_about_77 fp8_7 k200 rfl g200_3 ?_
        refine r_iload_n (pc := 80) hX 2 dX8_about_80 rfl rfl ?_
        refine r_iald (pc := 81) hX dX8_about_81 k201 (fun v4 => ?_)
        exact r_iretI (pc := 82) hX hE dX8_about_82
      refine r_ite (fun hs1 => ?_) (fun hs1 => ?_)
      · refine r_swIn (tgt := 83) (pc := 29) hX dX8_about_29 (by rw [hs1]; decide) (by rw [hs1]; decide) (by rw [hs1]; rfl) (by decide) ?_
        refine r_aload_n (pc := 83) hX 1 dX8_about_83 rfl rfl ?_
        refine r_getR (pc := 84) hX dX8_about_84 fp8_13 k200 rfl g200_4 ?_
        refine r_iload_n (pc := 87) hX 2 dX8_about_87 rfl rfl ?_
        refine r_iald (pc := 88) hX dX8_about_88 k202 (fun v5 => ?_)
        exact r_iretI (pc := 89) hX hE dX8_about_89
      refine r_ite (fun hs2 => ?_) (fun hs2 => ?_)
      · refine r_swIn (tgt := 90) (pc := 29) hX dX8_about_29 (by rw [hs2]; decide) (by rw [hs2]; decide) (by rw [hs2]; rfl) (by decide) ?_
        refine r_aload_n (pc := 90) hX 1 dX8_about_90 rfl rfl ?_
        refine r_getR (pc := 91) hX dX8_about_91 fp8_16 k200 rfl g200_5 ?_
        refine r_iload_n (pc := 94) hX 2 dX8_about_94 rfl rfl ?_
        refine r_iald (pc := 95) hX dX8_about_95 k203 (fun v6 => ?_)
        exact r_iretI (pc := 96) hX hE dX8_about_96
      refine r_ite (fun hs3 => ?_) (fun hs3 => ?_)
      · refine r_swIn (tgt := 97) (pc := 29) hX dX8_about_29 (by rw [hs3]; decide) (by rw [hs3]; decide) (by rw [hs3]; rfl) (by decide) ?_
        refine r_aload_n (pc := 97) hX 1 dX8_about_97 rfl rfl ?_
        refine r_getR (pc := 98) hX dX8_about_98 fp8_19 k200 rfl g200_6 ?_
        refine r_iload_n (pc := 101) hX 2 dX8_about_101 rfl rfl ?_
        refine r_iald (pc := 102) hX dX8_about_102 k204 (fun v7 => ?_)
        exact r_iretI (pc := 103) hX hE dX8_about_103
      refine r_ite (fun hs4 => ?_) (fun hs4 => ?_)
      · refine r_swIn (tgt := 104) (pc := 29) hX dX8_about_29 (by rw [hs4]; decide) (by rw [hs4]; decide) (by rw [hs4]; rfl) (by decide) ?_
        refine r_aload_n (pc := 104) hX 1 dX8_about_104 rfl rfl ?_
        refine r_getR (pc := 105) hX dX8_about_105 fp8_22 k200 rfl g200_7 ?_
        refine r_iload_n (pc := 108) hX 2 dX8_about_108 rfl rfl ?_
        refine r_iald (pc := 109) hX dX8_about_109 k205 (fun v8 => ?_)
        exact r_iretI (pc := 110) hX hE dX8_about_110
      refine r_ite (fun hs5 => ?_) (fun hs5 => ?_)
      · refine r_swIn (tgt := 111) (pc := 29) hX dX8_about_29 (by rw [hs5]; decide) (by rw [hs5]; decide) (by rw [hs5]; rfl) (by decide) ?_
        refine r_aload_n (pc := 111) hX 1 dX8_about_111 rfl rfl ?_
        refine r_getR (pc := 112) hX dX8_about_112 fp8_25 k200 rfl g200_8 ?_
        refine r_iload_n (pc := 115) hX 2 dX8_about_115 rfl rfl ?_
        refine r_iald (pc := 116) hX dX8_about_116 k206 (fun v9 => ?_)
        exact r_iretI (pc := 117) hX hE dX8_about_117
      refine r_ite (fun hs6 => ?_) (fun hs6 => ?_)
      · refine r_swIn (tgt := 118) (pc := 29) hX dX8_about_29 (by rw [hs6]; decide) (by rw [hs6]; decide) (by rw [hs6]; rfl) (by decide) ?_
        refine r_aload_n (pc := 118) hX 1 dX8_about_118 rfl rfl ?_
        refine r_iload_n (pc := 119) hX 2 dX8_about_119 rfl rfl ?_
        refine r_cvP (st := []) (pc := 120) hX dX8_about_120 MI_Mo_ways MV_Mo_ways lkX8_190 k200 (c_Mo_ways a0 m1) rfl rfl (Nat.le_of_ble_eq_true rfl) (by decide) (fun v10 => ?_)
        exact r_iretI (pc := 123) hX hE dX8_about_123
      refine r_ite (fun hs7 => ?_) (fun hs7 => ?_)
      · refine r_swIn (tgt := 124) (pc := 29) hX dX8_about_29 (by rw [hs7]; decide) (by rw [hs7]; decide) (by rw [hs7]; rfl) (by decide) ?_
        refine r_iconst (pc := 124) hX dX8_about_124 ic_0 ?_
        refine r_istore (L' := [(4, .int (0 : Int32)), (3, .int (0 : Int32)), (0, rX X 200), (1, .int a0), (2, .int a1)]) (pc := 125) hX dX8_about_125 (by decide) rfl ?_
        have hl127 : ∀ n : Nat, ∀ (v11 : Int32) (v12 : Int32) (m13 : Me), J X oI (fx (lb_Mo_about_127 a0) (fun _ _ _ => none) n v11 v12 m13) m13 127 [(0, rX X 200), (1, .int a0), (3, .int v11), (4, .int v12)] [] := by
          refine fx_ind (fun (f : Int32 → Int32 → Me → Option (Int32 × Me)) => ∀ (v11 : Int32) (v12 : Int32) (m13 : Me), J X oI (f v11 v12 m13) m13 127 [(0, rX X 200), (1, .int a0), (3, .int v11), (4, .int v12)] []) (fun _ _ _ => r_none) ?_
          intro s127 hs127 v11 v12 m13
          unfold lb_Mo_about_127
          refine r_iload (pc := 127) hX 3 dX8_about_127 rfl ?_
          refine r_aload_n (pc := 129) hX 0 dX8_about_129 rfl rfl ?_
          refine r_iload_n (pc := 130) hX 1 dX8_about_130 rfl rfl ?_
          refine r_cvP (st := [.int v12]) (pc := 131) hX dX8_about_131 MI_Mo_ways MV_Mo_ways lkX8_190 k200 (c_Mo_ways a0 m13) rfl rfl (Nat.le_of_ble_eq_true rfl) (by decide) (fun v14 => ?_)
          refine r_icmp_ge (tgt := 162) (pc := 134) hX dX8_about_134 (by decide) ?_ ?_
          · skip
            refine r_iload_n (pc := 162) hX 2 dX8_about_162 rfl rfl ?_
            exact r_iretI (pc := 163) hX hE dX8_about_163
          · skip
            refine r_iload_n (pc := 137) hX 2 dX8_about_137 rfl rfl ?_
            refine r_aload_n (pc := 138) hX 0 dX8_about_138 rfl rfl ?_
            refine r_iload_n (pc := 139) hX 1 dX8_about_139 rfl rfl ?_
            refine r_iload (pc := 140) hX 3 dX8_about_140 rfl ?_
            refine r_iconst (pc := 142) hX dX8_about_142 ic_0 ?_
            refine r_cvI (st := [.int v11]) (pc := 143) hX dX8_about_143 MI_Mo_isOpen MV_Mo_isOpen lkX8_201 k200 (c_Mo_isOpen a0 v12 (0 : Int32) m13) rfl rfl (Nat.le_of_ble_eq_true rfl) (by decide) (fun v15 m16 => ?_)
            refine r_join (P := fun k => ∀ (v17 : Int32), J X oI (k v17) m16 154 [(0, rX X 200), (1, .int a0), (4, .int v12)] [.int v17, .int v11]) ?_ ?_
            · intro v17
              refine r_iadd (pc := 154) hX dX8_about_154 ?_
              refine r_nmI (fun v18 => ?_)
              refine r_istore_n (L' := [(3, .int v18), (0, rX X 200), (1, .int a0), (4, .int v12)]) (pc := 155) hX dX8_about_155 rfl (by decide) rfl ?_
              refine r_iincN (L' := fun w => [(4, .int w), (3, .int v18), (0, rX X 200), (1, .int a0)]) (pc := 156) hX 3 dX8_about_156 rfl rfl (by decide) (fun _ => rfl) (fun v19 => ?_)
              refine r_goto (tgt := 127) (pc := 159) hX dX8_about_159 (by decide) ?_
              exact r_sub [2, 3, 1, 0] rfl (hs127 v18 v19 m16)
            intro k154_ hk154_
            refine r_if_eq (tgt := 153) (pc := 146) hX dX8_about_146 (by decide) ?_ ?_
            · skip
              refine r_iconst (pc := 153) hX dX8_about_153 ic_0 ?_
              exact r_sub [0, 1, 3] rfl (hk154_ (0 : Int32))
            · skip
              refine r_iconst (pc := 149) hX dX8_about_149 ic_1 ?_
              refine r_goto (tgt := 154) (pc := 150) hX dX8_about_150 (by decide) ?_
              exact r_sub [0, 1, 3] rfl (hk154_ (1 : Int32))
        exact r_sub [2, 3, 1, 0] rfl (hl127 FU (0 : Int32) (0 : Int32) m1)
      refine r_swOut (tgt := 164) (pc := 29) hX dX8_about_29 (sw_def (n := 7) (by decide) (fun k hk => by rcases (show k = 0 ∨ k = 1 ∨ k = 2 ∨ k = 3 ∨ k = 4 ∨ k = 5 ∨ k = 6 ∨ k = 7 by omega) with rfl | rfl | rfl | rfl | rfl | rfl | rfl | rfl <;> first | exact hs0 | exact hs1 | exact hs2 | exact hs3 | exact hs4 | exact hs5 | exact hs6 | exact hs7)) (by decide) ?_
      refine r_aload_n (pc := 164) hX 1 dX8_about_164 rfl rfl ?_
      refine r_cvI (st := []) (pc := 165) hX dX8_about_165 MI_Mo_findParts MV_Mo_findParts lkX8_214 k200 (c_Mo_findParts m1) rfl rfl (Nat.le_of_ble_eq_true rfl) (by decide) (fun v20 m21 => ?_)
      refine r_istore_n (L' := [(3, .int v20), (0, rX X 200), (1, .int a0), (2, .int a1)]) (pc := 168) hX dX8_about_168 rfl (by decide) rfl ?_
      refine r_aload_n (pc := 169) hX 1 dX8_about_169 rfl rfl ?_
      refine r_getR (pc := 170) hX dX8_about_170 fp8_47 k200 rfl g200_26 ?_
      refine r_iload_n (pc := 173) hX 2 dX8_about_173 rfl rfl ?_
      refine r_iald (pc := 174) hX dX8_about_174 k213 (fun v22 => ?_)
      exact r_iretI (pc := 175) hX hE dX8_about_175
    · skip
      refine r_bipush (pc := 23) hX dX8_about_23 bp_m3 ?_
      exact r_iretI (pc := 25) hX hE dX8_about_25
def f_Mo_isOf (a0 : Int32) (a1 : Int32) (m : Me) : Option (Int32 × Me) := bd (si m 200 0 (0 : Int32)) (fun m1 => cP (f_Mo_isName a0 m1) (fun v2 => if v2 = 0 then some ((-3 : Int32), m1) else cP (f_Mo_in a1 (0 : Int32) (3 : Int32) m1) (fun v3 => if v3 = 0 then some ((-3 : Int32), m1) else bd (some ((1 : Int32), m1)) (fun k54_ => if a1 = 0 then (k54_) else rd (ln 201) a0 (m1.1 201) (fun v4 => if v4 = a1 then (k54_) else if a1 = (2 : Int32) then rd (ln 201) a0 (m1.1 201) (fun v5 => if v5 = (3 : Int32) then (k54_) else some ((0 : Int32), m1)) else some ((0 : Int32), m1))))))
set_option maxHeartbeats 4000000 in
set_option maxRecDepth 100000 in
theorem c_Mo_isOf (a0 : Int32) (a1 : Int32)  (m : Me) (r : Int32) (m' : Me) (h : f_Mo_isOf a0 a1 m = some (r, m')) : Ct yX8_isOf cX8_isOf 3 (some .int) 2 (fun ad => [.ref (ad 200), .int a0, .int a1]) m (fun ad => (some (.int r), m')) := by
  refine mk_ct (F := f_Mo_isOf a0 a1 m) (fun _ => oI) (r, m') h (fun _ => rfl) (by decide) (fun _ => Nat.le_of_ble_eq_true rfl) ?_
  intro X hX hE
  show J X oI (f_Mo_isOf a0 a1 m) m 0 [(0, rX X 200), (1, .int a0), (2, .int a1)] []
  unfold f_Mo_isOf
  refine r_aload_n (pc := 0) hX 0 dX8_isOf_0 rfl rfl ?_
  refine r_iconst (pc := 1) hX dX8_isOf_1 ic_0 ?_
  refine r_putI (pc := 2) hX dX8_isOf_2 fp8_78 k200 (fun m1 => ?_)
  refine r_aload_n (pc := 5) hX 0 dX8_isOf_5 rfl rfl ?_
  refine r_iload_n (pc := 6) hX 1 dX8_isOf_6 rfl rfl ?_
  refine r_cvP (st := []) (pc := 7) hX dX8_isOf_7 MI_Mo_isName MV_Mo_isName lkX8_115 k200 (c_Mo_isName a0 m1) rfl rfl (Nat.le_of_ble_eq_true rfl) (by decide) (fun v2 => ?_)
  refine r_if_eq (tgt := 22) (pc := 10) hX dX8_isOf_10 (by decide) ?_ ?_
  · skip
    refine r_bipush (pc := 22) hX dX8_isOf_22 bp_m3 ?_
    exact r_iretI (pc := 24) hX hE dX8_isOf_24
  · skip
    refine r_iload_n (pc := 13) hX 2 dX8_isOf_13 rfl rfl ?_
    refine r_iconst (pc := 14) hX dX8_isOf_14 ic_0 ?_
    refine r_iconst (pc := 15) hX dX8_isOf_15 ic_3 ?_
    refine r_csP (st := []) (pc := 16) hX dX8_isOf_16 MI_Mo_in MS_Mo_in lkX8_104 (c_Mo_in a1 (0 : Int32) (3 : Int32) m1) rfl rfl (Nat.le_of_ble_eq_true rfl) (by decide) (fun v3 => ?_)
    refine r_if_ne (tgt := 25) (pc := 19) hX dX8_isOf_19 (by decide) ?_ ?_
    · skip
      refine r_iload_n (pc := 25) hX 2 dX8_isOf_25 rfl rfl ?_
      refine r_join (P := fun k => J X oI (k) m1 54 [] []) ?_ ?_
      · skip
        refine r_iconst (pc := 54) hX dX8_isOf_54 ic_1 ?_
        refine r_goto (tgt := 59) (pc := 55) hX dX8_isOf_55 (by decide) ?_
        exact r_iretI (pc := 59) hX hE dX8_isOf_59
      intro k54_ hk54_
      refine r_if_eq (tgt := 54) (pc := 26) hX dX8_isOf_26 (by decide) ?_ ?_
      · skip
        exact r_sub [] rfl (hk54_)
      · skip
        refine r_aload_n (pc := 29) hX 0 dX8_isOf_29 rfl rfl ?_
        refine r_getR (pc := 30) hX dX8_isOf_30 fp8_7 k200 rfl g200_3 ?_
        refine r_iload_n (pc := 33) hX 1 dX8_isOf_33 rfl rfl ?_
        refine r_iald (pc := 34) hX dX8_isOf_34 k201 (fun v4 => ?_)
        refine r_iload_n (pc := 35) hX 2 dX8_isOf_35 rfl rfl ?_
        refine r_icmp_eq (tgt := 54) (pc := 36) hX dX8_isOf_36 (by decide) ?_ ?_
        · skip
          exact r_sub [] rfl (hk54_)
        · skip
          refine r_iload_n (pc := 39) hX 2 dX8_isOf_39 rfl rfl ?_
          refine r_iconst (pc := 40) hX dX8_isOf_40 ic_2 ?_
          refine r_icmp_ne (tgt := 58) (pc := 41) hX dX8_isOf_41 (by decide) ?_ ?_
          · skip
            refine r_iconst (pc := 58) hX dX8_isOf_58 ic_0 ?_
            exact r_iretI (pc := 59) hX hE dX8_isOf_59
          · skip
            refine r_aload_n (pc := 44) hX 0 dX8_isOf_44 rfl rfl ?_
            refine r_getR (pc := 45) hX dX8_isOf_45 fp8_7 k200 rfl g200_3 ?_
            refine r_iload_n (pc := 48) hX 1 dX8_isOf_48 rfl rfl ?_
            refine r_iald (pc := 49) hX dX8_isOf_49 k201 (fun v5 => ?_)
            refine r_iconst (pc := 50) hX dX8_isOf_50 ic_3 ?_
            refine r_icmp_ne (tgt := 58) (pc := 51) hX dX8_isOf_51 (by decide) ?_ ?_
            · skip
              refine r_iconst (pc := 58) hX dX8_isOf_58 ic_0 ?_
              exact r_iretI (pc := 59) hX hE dX8_isOf_59
            · skip
              exact r_sub [] rfl (hk54_)
    · skip
      refine r_bipush (pc := 22) hX dX8_isOf_22 bp_m3 ?_
      exact r_iretI (pc := 24) hX hE dX8_isOf_24
def f_Mo_set (a0 : Int32) (a1 : Int32) (m : Me) : Option (Int32 × Me) := bd (si m 200 0 (0 : Int32)) (fun m1 => cP (f_Mo_isWay a0 a1 m1) (fun v2 => if v2 = 0 then some ((-3 : Int32), m1) else cP (f_Mo_keep m1) (fun m3 => rd (ln 207) a0 (m3.1 207) (fun v4 => wi m3 207 (ln 207) a0 a1 (fun m5 => if v4 = (16 : Int32) then some ((-1 : Int32), m5) else some (v4, m5))))))
set_option maxHeartbeats 4000000 in
set_option maxRecDepth 100000 in
theorem c_Mo_set (a0 : Int32) (a1 : Int32)  (m : Me) (r : Int32) (m' : Me) (h : f_Mo_set a0 a1 m = some (r, m')) : Ct yX8_set cX8_set 4 (some .int) 3 (fun ad => [.ref (ad 200), .int a0, .int a1]) m (fun ad => (some (.int r), m')) := by
  refine mk_ct (F := f_Mo_set a0 a1 m) (fun _ => oI) (r, m') h (fun _ => rfl) (by decide) (fun _ => Nat.le_of_ble_eq_true rfl) ?_
  intro X hX hE
  show J X oI (f_Mo_set a0 a1 m) m 0 [(0, rX X 200), (1, .int a0), (2, .int a1)] []
  unfold f_Mo_set
  refine r_aload_n (pc := 0) hX 0 dX8_set_0 rfl rfl ?_
  refine r_iconst (pc := 1) hX dX8_set_1 ic_0 ?_
  refine r_putI (pc := 2) hX dX8_set_2 fp8_78 k200 (fun m1 => ?_)
  refine r_aload_n (pc := 5) hX 0 dX8_set_5 rfl rfl ?_
  refine r_iload_n (pc := 6) hX 1 dX8_set_6 rfl rfl ?_
  refine r_iload_n (pc := 7) hX 2 dX8_set_7 rfl rfl ?_
  refine r_cvP (st := []) (pc := 8) hX dX8_set_8 MI_Mo_isWay MV_Mo_isWay lkX8_194 k200 (c_Mo_isWay a0 a1 m1) rfl rfl (Nat.le_of_ble_eq_true rfl) (by decide) (fun v2 => ?_)
  refine r_if_ne (tgt := 17) (pc := 11) hX dX8_set_11 (by decide) ?_ ?_
  · skip
    refine r_aload_n (pc := 17) hX 0 dX8_set_17 rfl rfl ?_
    refine r_cvV (st := []) (pc := 18) hX dX8_set_18 MI_Mo_keep MV_Mo_keep lkX8_112 k200 (c_Mo_keep m1) rfl rfl (Nat.le_of_ble_eq_true rfl) (by decide) (fun m3 => ?_)
    refine r_aload_n (pc := 21) hX 0 dX8_set_21 rfl rfl ?_
    refine r_getR (pc := 22) hX dX8_set_22 fp8_28 k200 rfl g200_9 ?_
    refine r_iload_n (pc := 25) hX 1 dX8_set_25 rfl rfl ?_
    refine r_iald (pc := 26) hX dX8_set_26 k207 (fun v4 => ?_)
    refine r_istore_n (L' := [(3, .int v4), (0, rX X 200), (1, .int a0), (2, .int a1)]) (pc := 27) hX dX8_set_27 rfl (by decide) rfl ?_
    refine r_aload_n (pc := 28) hX 1 dX8_set_28 rfl rfl ?_
    refine r_getR (pc := 29) hX dX8_set_29 fp8_28 k200 rfl g200_9 ?_
    refine r_iload_n (pc := 32) hX 2 dX8_set_32 rfl rfl ?_
    refine r_iload_n (pc := 33) hX 3 dX8_set_33 rfl rfl ?_
    refine r_iast (pc := 34) hX dX8_set_34 k207 (fun m5 => ?_)
    refine r_iload_n (pc := 35) hX 0 dX8_set_35 rfl rfl ?_
    refine r_bipush (pc := 36) hX dX8_set_36 bp_16 ?_
    refine r_icmp_ne (tgt := 45) (pc := 38) hX dX8_set_38 (by decide) ?_ ?_
    · skip
      refine r_iload_n (pc := 45) hX 0 dX8_set_45 rfl rfl ?_
      exact r_iretI (pc := 46) hX hE dX8_set_46
    · skip
      refine r_iconst (pc := 41) hX dX8_set_41 ic_m1 ?_
      refine r_goto (tgt := 46) (pc := 42) hX dX8_set_42 (by decide) ?_
      exact r_iretI (pc := 46) hX hE dX8_set_46
  · skip
    refine r_bipush (pc := 14) hX dX8_set_14 bp_m3 ?_
    exact r_iretI (pc := 16) hX hE dX8_set_16
def f_Mo_free (a0 : Int32) (m : Me) : Option (Int32 × Me) := bd (si m 200 0 (0 : Int32)) (fun m1 => cP (f_Mo_isName a0 m1) (fun v2 => if v2 = 0 then some ((-3 : Int32), m1) else rd (ln 207) a0 (m1.1 207) (fun v3 => if v3 = (16 : Int32) then some ((-4 : Int32), m1) else cP (f_Mo_keep m1) (fun m4 => rd (ln 207) a0 (m4.1 207) (fun v5 => wi m4 207 (ln 207) a0 (16 : Int32) (fun m6 => some (v5, m6)))))))
set_option maxHeartbeats 4000000 in
set_option maxRecDepth 100000 in
theorem c_Mo_free (a0 : Int32)  (m : Me) (r : Int32) (m' : Me) (h : f_Mo_free a0 m = some (r, m')) : Ct yX8_free cX8_free 3 (some .int) 2 (fun ad => [.ref (ad 200), .int a0]) m (fun ad => (some (.int r), m')) := by
  refine mk_ct (F := f_Mo_free a0 m) (fun _ => oI) (r, m') h (fun _ => rfl) (by decide) (fun _ => Nat.le_of_ble_eq_true rfl) ?_
  intro X hX hE
  show J X oI (f_Mo_free a0 m) m 0 [(0, rX X 200), (1, .int a0)] []
  unfold f_Mo_free
  refine r_aload_n (pc := 0) hX 0 dX8_free_0 rfl rfl ?_
  refine r_iconst (pc := 1) hX dX8_free_1 ic_0 ?_
  refine r_putI (pc := 2) hX dX8_free_2 fp8_78 k200 (fun m1 => ?_)
  refine r_aload_n (pc := 5) hX 0 dX8_free_5 rfl rfl ?_
  refine r_iload_n (pc := 6) hX 1 dX8_free_6 rfl rfl ?_
  refine r_cvP (st := []) (pc := 7) hX dX8_free_7 MI_Mo_isName MV_Mo_isName lkX8_115 k200 (c_Mo_isName a0 m1) rfl rfl (Nat.le_of_ble_eq_true rfl) (by decide) (fun v2 => ?_)
  refine r_if_ne (tgt := 16) (pc := 10) hX dX8_free_10 (by decide) ?_ ?_
  · skip
    refine r_aload_n (pc := 16) hX 0 dX8_free_16 rfl rfl ?_
    refine r_getR (pc := 17) hX dX8_free_17 fp8_28 k200 rfl g200_9 ?_
    refine r_iload_n (pc := 20) hX 1 dX8_free_20 rfl rfl ?_
    refine r_iald (pc := 21) hX dX8_free_21 k207 (fun v3 => ?_)
    refine r_bipush (pc := 22) hX dX8_free_22 bp_16 ?_
    refine r_icmp_ne (tgt := 30) (pc := 24) hX dX8_free_24 (by decide) ?_ ?_
    · skip
      refine r_aload_n (pc := 30) hX 0 dX8_free_30 rfl rfl ?_
      refine r_cvV (st := []) (pc := 31) hX dX8_free_31 MI_Mo_keep MV_Mo_keep lkX8_112 k200 (c_Mo_keep m1) rfl rfl (Nat.le_of_ble_eq_true rfl) (by decide) (fun m4 => ?_)
      refine r_aload_n (pc := 34) hX 0 dX8_free_34 rfl rfl ?_
      refine r_getR (pc := 35) hX dX8_free_35 fp8_28 k200 rfl g200_9 ?_
      refine r_iload_n (pc := 38) hX 1 dX8_free_38 rfl rfl ?_
      refine r_iald (pc := 39) hX dX8_free_39 k207 (fun v5 => ?_)
      refine r_istore_n (L' := [(2, .int v5), (0, rX X 200), (1, .int a0)]) (pc := 40) hX dX8_free_40 rfl (by decide) rfl ?_
      refine r_aload_n (pc := 41) hX 1 dX8_free_41 rfl rfl ?_
      refine r_getR (pc := 42) hX dX8_free_42 fp8_28 k200 rfl g200_9 ?_
      refine r_iload_n (pc := 45) hX 2 dX8_free_45 rfl rfl ?_
      refine r_bipush (pc := 46) hX dX8_free_46 bp_16 ?_
      refine r_iast (pc := 48) hX dX8_free_48 k207 (fun m6 => ?_)
      refine r_iload_n (pc := 49) hX 0 dX8_free_49 rfl rfl ?_
      exact r_iretI (pc := 50) hX hE dX8_free_50
    · skip
      refine r_bipush (pc := 27) hX dX8_free_27 bp_m4 ?_
      exact r_iretI (pc := 29) hX hE dX8_free_29
  · skip
    refine r_bipush (pc := 13) hX dX8_free_13 bp_m3 ?_
    exact r_iretI (pc := 15) hX hE dX8_free_15
def f_Mo_chosen (a0 : Int32) (m : Me) : Option (Int32 × Me) := bd (si m 200 0 (0 : Int32)) (fun m1 => cP (f_Mo_isName a0 m1) (fun v2 => if v2 = 0 then some ((-3 : Int32), m1) else rd (ln 207) a0 (m1.1 207) (fun v3 => if v3 = (16 : Int32) then some ((-1 : Int32), m1) else rd (ln 207) a0 (m1.1 207) (fun v4 => some (v4, m1)))))
set_option maxHeartbeats 4000000 in
set_option maxRecDepth 100000 in
theorem c_Mo_chosen (a0 : Int32)  (m : Me) (r : Int32) (m' : Me) (h : f_Mo_chosen a0 m = some (r, m')) : Ct yX8_chosen cX8_chosen 2 (some .int) 2 (fun ad => [.ref (ad 200), .int a0]) m (fun ad => (some (.int r), m')) := by
  refine mk_ct (F := f_Mo_chosen a0 m) (fun _ => oI) (r, m') h (fun _ => rfl) (by decide) (fun _ => Nat.le_of_ble_eq_true rfl) ?_
  intro X hX hE
  show J X oI (f_Mo_chosen a0 m) m 0 [(0, rX X 200), (1, .int a0)] []
  unfold f_Mo_chosen
  refine r_aload_n (pc := 0) hX 0 dX8_chosen_0 rfl rfl ?_
  refine r_iconst (pc := 1) hX dX8_chosen_1 ic_0 ?_
  refine r_putI (pc := 2) hX dX8_chosen_2 fp8_78 k200 (fun m1 => ?_)
  refine r_aload_n (pc := 5) hX 0 dX8_chosen_5 rfl rfl ?_
  refine r_iload_n (pc := 6) hX 1 dX8_chosen_6 rfl rfl ?_
  refine r_cvP (st := []) (pc := 7) hX dX8_chosen_7 MI_Mo_isName MV_Mo_isName lkX8_115 k200 (c_Mo_isName a0 m1) rfl rfl (Nat.le_of_ble_eq_true rfl) (by decide) (fun v2 => ?_)
  refine r_if_ne (tgt := 18) (pc := 10) hX dX8_chosen_10 (by decide) ?_ ?_
  · skip
    refine r_aload_n (pc := 18) hX 0 dX8_chosen_18 rfl rfl ?_
    refine r_getR (pc := 19) hX dX8_chosen_19 fp8_28 k200 rfl g200_9 ?_
    refine r_iload_n (pc := 22) hX 1 dX8_chosen_22 rfl rfl ?_
    refine r_iald (pc := 23) hX dX8_chosen_23 k207 (fun v3 => ?_)
    refine r_bipush (pc := 24) hX dX8_chosen_24 bp_16 ?_
    refine r_icmp_ne (tgt := 33) (pc := 26) hX dX8_chosen_26 (by decide) ?_ ?_
    · skip
      refine r_aload_n (pc := 33) hX 0 dX8_chosen_33 rfl rfl ?_
      refine r_getR (pc := 34) hX dX8_chosen_34 fp8_28 k200 rfl g200_9 ?_
      refine r_iload_n (pc := 37) hX 1 dX8_chosen_37 rfl rfl ?_
      refine r_iald (pc := 38) hX dX8_chosen_38 k207 (fun v4 => ?_)
      exact r_iretI (pc := 39) hX hE dX8_chosen_39
    · skip
      refine r_iconst (pc := 29) hX dX8_chosen_29 ic_m1 ?_
      refine r_goto (tgt := 39) (pc := 30) hX dX8_chosen_30 (by decide) ?_
      exact r_iretI (pc := 39) hX hE dX8_chosen_39
  · skip
    refine r_bipush (pc := 13) hX dX8_chosen_13 bp_m3 ?_
    refine r_goto (tgt := 39) (pc := 15) hX dX8_chosen_15 (by decide) ?_
    exact r_iretI (pc := 39) hX hE dX8_chosen_39
def lb_Mo_clashInHand_2 (a0 : Int32) (a1 : Int32) (s2 : Int32 → Me → Option (Int32 × Me)) (v1 : Int32) (m2 : Me) : Option (Int32 × Me) := if (m2.1 200 1) ≤ v1 then some ((-1 : Int32), m2) else bd (fun (m3 : Me) => bd (v1 + 1) (fun v4 => (s2 v4 m3))) (fun k45_ => if v1 = a0 then (k45_ m2) else rd (ln 207) v1 (m2.1 207) (fun v5 => if v5 = (16 : Int32) then (k45_ m2) else rd (ln 207) v1 (m2.1 207) (fun v6 => cI (f_Mo_doClash a0 a1 v1 v6 (0 : Int32) m2) (fun v7 m8 => if v7 = 0 then (k45_ m8) else some (v1, m8)))))
def f_Mo_clashInHand (a0 : Int32) (a1 : Int32) (m : Me) : Option (Int32 × Me) := ((fx (lb_Mo_clashInHand_2 a0 a1) (fun _ _ => none) FU) (0 : Int32) m)
set_option maxHeartbeats 4000000 in
set_option maxRecDepth 100000 in
theorem c_Mo_clashInHand (a0 : Int32) (a1 : Int32)  (m : Me) (r : Int32) (m' : Me) (h : f_Mo_clashInHand a0 a1 m = some (r, m')) : Ct yX8_clashInHand cX8_clashInHand 4 (some .int) 4 (fun ad => [.ref (ad 200), .int a0, .int a1]) m (fun ad => (some (.int r), m')) := by
  refine mk_ct (F := f_Mo_clashInHand a0 a1 m) (fun _ => oI) (r, m') h (fun _ => rfl) (by decide) (fun _ => Nat.le_of_ble_eq_true rfl) ?_
  intro X hX hE
  show J X oI (f_Mo_clashInHand a0 a1 m) m 0 [(0, rX X 200), (1, .int a0), (2, .int a1)] []
  unfold f_Mo_clashInHand
  refine r_iconst (pc := 0) hX dX8_clashInHand_0 ic_0 ?_
  refine r_istore_n (L' := [(3, .int (0 : Int32)), (0, rX X 200), (1, .int a0), (2, .int a1)]) (pc := 1) hX dX8_clashInHand_1 rfl (by decide) rfl ?_
  have hl2 : ∀ n : Nat, ∀ (v1 : Int32) (m2 : Me), J X oI (fx (lb_Mo_clashInHand_2 a0 a1) (fun _ _ => none) n v1 m2) m2 2 [(0, rX X 200), (1, .int a0), (2, .int a1), (3, .int v1)] [] := by
    refine fx_ind (fun (f : Int32 → Me → Option (Int32 × Me)) => ∀ (v1 : Int32) (m2 : Me), J X oI (f v1 m2) m2 2 [(0, rX X 200), (1, .int a0), (2, .int a1), (3, .int v1)] []) (fun _ _ => r_none) ?_
    intro s2 hs2 v1 m2
    unfold lb_Mo_clashInHand_2
    refine r_iload_n (pc := 2) hX 3 dX8_clashInHand_2 rfl rfl ?_
    refine r_aload_n (pc := 3) hX 0 dX8_clashInHand_3 rfl rfl ?_
    refine r_getI (pc := 4) hX dX8_clashInHand_4 fp8_88 k200 (by decide) ?_
    refine r_icmp_ge (tgt := 51) (pc := 7) hX dX8_clashInHand_7 (by decide) ?_ ?_
    · skip
      refine r_iconst (pc := 51) hX dX8_clashInHand_51 ic_m1 ?_
      exact r_iretI (pc := 52) hX hE dX8_clashInHand_52
    · skip
      refine r_iload_n (pc := 10) hX 3 dX8_clashInHand_10 rfl rfl ?_
      refine r_iload_n (pc := 11) hX 1 dX8_clashInHand_11 rfl rfl ?_
      refine r_join (P := fun k => ∀ (m3 : Me), J X oI (k m3) m3 45 [(0, rX X 200), (1, .int a0), (2, .int a1), (3, .int v1)] []) ?_ ?_
      · intro m3
        refine r_iincN (L' := fun w => [(3, .int w), (0, rX X 200), (1, .int a0), (2, .int a1)]) (pc := 45) hX 3 dX8_clashInHand_45 rfl rfl (by decide) (fun _ => rfl) (fun v4 => ?_)
        refine r_goto (tgt := 2) (pc := 48) hX dX8_clashInHand_48 (by decide) ?_
        exact r_sub [1, 2, 3, 0] rfl (hs2 v4 m3)
      intro k45_ hk45_
      refine r_icmp_eq (tgt := 45) (pc := 12) hX dX8_clashInHand_12 (by decide) ?_ ?_
      · skip
        exact hk45_ m2
      · skip
        refine r_aload_n (pc := 15) hX 0 dX8_clashInHand_15 rfl rfl ?_
        refine r_getR (pc := 16) hX dX8_clashInHand_16 fp8_28 k200 rfl g200_9 ?_
        refine r_iload_n (pc := 19) hX 3 dX8_clashInHand_19 rfl rfl ?_
        refine r_iald (pc := 20) hX dX8_clashInHand_20 k207 (fun v5 => ?_)
        refine r_bipush (pc := 21) hX dX8_clashInHand_21 bp_16 ?_
        refine r_icmp_eq (tgt := 45) (pc := 23) hX dX8_clashInHand_23 (by decide) ?_ ?_
        · skip
          exact hk45_ m2
        · skip
          refine r_aload_n (pc := 26) hX 0 dX8_clashInHand_26 rfl rfl ?_
          refine r_iload_n (pc := 27) hX 1 dX8_clashInHand_27 rfl rfl ?_
          refine r_iload_n (pc := 28) hX 2 dX8_clashInHand_28 rfl rfl ?_
          refine r_iload_n (pc := 29) hX 3 dX8_clashInHand_29 rfl rfl ?_
          refine r_aload_n (pc := 30) hX 0 dX8_clashInHand_30 rfl rfl ?_
          refine r_getR (pc := 31) hX dX8_clashInHand_31 fp8_28 k200 rfl g200_9 ?_
          refine r_iload_n (pc := 34) hX 3 dX8_clashInHand_34 rfl rfl ?_
          refine r_iald (pc := 35) hX dX8_clashInHand_35 k207 (fun v6 => ?_)
          refine r_iconst (pc := 36) hX dX8_clashInHand_36 ic_0 ?_
          refine r_cvI (st := []) (pc := 37) hX dX8_clashInHand_37 MI_Mo_doClash MV_Mo_doClash lkX8_204 k200 (c_Mo_doClash a0 a1 v1 v6 (0 : Int32) m2) rfl rfl (Nat.le_of_ble_eq_true rfl) (by decide) (fun v7 m8 => ?_)
          refine r_if_eq (tgt := 45) (pc := 40) hX dX8_clashInHand_40 (by decide) ?_ ?_
          · skip
            exact hk45_ m8
          · skip
            refine r_iload_n (pc := 43) hX 3 dX8_clashInHand_43 rfl rfl ?_
            exact r_iretI (pc := 44) hX hE dX8_clashInHand_44
  exact r_sub [1, 2, 3, 0] rfl (hl2 FU (0 : Int32) m)
def lb_Mo_check_102 (m3 : Me) (s102 : Int32 → Option (Int32 × Me)) (v4 : Int32) : Option (Int32 × Me) := if (m3.1 200 1) ≤ v4 then some ((0 : Int32), m3) else rd (ln 207) v4 (m3.1 207) (fun v5 => bd (bd (v4 + 1) (fun v6 => (s102 v6))) (fun k137_ => if v5 = (16 : Int32) then rd (ln 201) v4 (m3.1 201) (fun v7 => if v7 = (3 : Int32) then some (((300 : Int32) + v4), m3) else (k137_)) else (k137_)))
def lb_Mo_check_54 (k100_ : Me → Option (Int32 × Me)) (s54 : Int32 → Me → Option (Int32 × Me)) (v8 : Int32) (m9 : Me) : Option (Int32 × Me) := if (m9.1 200 1) ≤ v8 then (k100_ m9) else rd (ln 207) v8 (m9.1 207) (fun v10 => bd (fun (m11 : Me) => bd (v8 + 1) (fun v12 => (s54 v12 m11))) (fun k94_ => if v10 = (16 : Int32) then (k94_ m9) else rd (ln 207) v8 (m9.1 207) (fun v13 => cI (f_Mo_clashInHand v8 v13 m9) (fun v14 m15 => if v14 = (-1 : Int32) then (k94_ m15) else some (((200 : Int32) + v8), m15)))))
def lb_Mo_check_7 (k52_ : Me → Option (Int32 × Me)) (s7 : Int32 → Me → Option (Int32 × Me)) (v16 : Int32) (m17 : Me) : Option (Int32 × Me) := if (m17.1 200 1) ≤ v16 then (k52_ m17) else rd (ln 207) v16 (m17.1 207) (fun v18 => bd (fun (m19 : Me) => bd (v16 + 1) (fun v20 => (s7 v20 m19))) (fun k46_ => if v18 = (16 : Int32) then (k46_ m17) else rd (ln 207) v16 (m17.1 207) (fun v21 => cI (f_Mo_isOpen v16 v21 (0 : Int32) m17) (fun v22 m23 => if v22 = 0 then some (((100 : Int32) + v16), m23) else (k46_ m23)))))
def f_Mo_check  (m : Me) : Option (Int32 × Me) := bd (si m 200 0 (0 : Int32)) (fun m1 => bd (fun (m2 : Me) => bd (fun (m3 : Me) => ((fx (lb_Mo_check_102 m3) (fun _ => none) FU) (0 : Int32))) (fun k100_ => ((fx (lb_Mo_check_54 k100_) (fun _ _ => none) FU) (0 : Int32) m2))) (fun k52_ => ((fx (lb_Mo_check_7 k52_) (fun _ _ => none) FU) (0 : Int32) m1)))
set_option maxHeartbeats 4000000 in
set_option maxRecDepth 100000 in
theorem c_Mo_check   (m : Me) (r : Int32) (m' : Me) (h : f_Mo_check  m = some (r, m')) : Ct yX8_check cX8_check 2 (some .int) 5 (fun ad => [.ref (ad 200)]) m (fun ad => (some (.int r), m')) := by
  refine mk_ct (F := f_Mo_check  m) (fun _ => oI) (r, m') h (fun _ => rfl) (by decide) (fun _ => Nat.le_of_ble_eq_true rfl) ?_
  intro X hX hE
  show J X oI (f_Mo_check  m) m 0 [(0, rX X 200)] []
  unfold f_Mo_check
  refine r_aload_n (pc := 0) hX 0 dX8_check_0 rfl rfl ?_
  refine r_iconst (pc := 1) hX dX8_check_1 ic_0 ?_
  refine r_putI (pc := 2) hX dX8_check_2 fp8_78 k200 (fun m1 => ?_)
  refine r_iconst (pc := 5) hX dX8_check_5 ic_0 ?_
  refine r_istore_n (L' := [(1, .int (0 : Int32)), (0, rX X 200)]) (pc := 6) hX dX8_check_6 rfl (by decide) rfl ?_
  refine r_join (P := fun k => ∀ (m2 : Me), J X oI (k m2) m2 52 [(0, rX X 200)] []) ?_ ?_
  · intro m2
    refine r_iconst (pc := 52) hX dX8_check_52 ic_0 ?_
    refine r_istore_n (L' := [(1, .int (0 : Int32)), (0, rX X 200)]) (pc := 53) hX dX8_check_53 rfl (by decide) rfl ?_
    refine r_join (P := fun k => ∀ (m3 : Me), J X oI (k m3) m3 100 [(0, rX X 200)] []) ?_ ?_
    · intro m3
      refine r_iconst (pc := 100) hX dX8_check_100 ic_0 ?_
      refine r_istore_n (L' := [(1, .int (0 : Int32)), (0, rX X 200)]) (pc := 101) hX dX8_check_101 rfl (by decide) rfl ?_
      have hl102 : ∀ n : Nat, ∀ (v4 : Int32), J X oI (fx (lb_Mo_check_102 m3) (fun _ => none) n v4) m3 102 [(0, rX X 200), (1, .int v4)] [] := by
        refine fx_ind (fun (f : Int32 → Option (Int32 × Me)) => ∀ (v4 : Int32), J X oI (f v4) m3 102 [(0, rX X 200), (1, .int v4)] []) (fun _ => r_none) ?_
        intro s102 hs102 v4
        unfold lb_Mo_check_102
        refine r_iload_n (pc := 102) hX 1 dX8_check_102 rfl rfl ?_
        refine r_aload_n (pc := 103) hX 0 dX8_check_103 rfl rfl ?_
        refine r_getI (pc := 104) hX dX8_check_104 fp8_88 k200 (by decide) ?_
        refine r_icmp_ge (tgt := 143) (pc := 107) hX dX8_check_107 (by decide) ?_ ?_
        · skip
          refine r_iconst (pc := 143) hX dX8_check_143 ic_0 ?_
          exact r_iretI (pc := 144) hX hE dX8_check_144
        · skip
          refine r_aload_n (pc := 110) hX 0 dX8_check_110 rfl rfl ?_
          refine r_getR (pc := 111) hX dX8_check_111 fp8_28 k200 rfl g200_9 ?_
          refine r_iload_n (pc := 114) hX 1 dX8_check_114 rfl rfl ?_
          refine r_iald (pc := 115) hX dX8_check_115 k207 (fun v5 => ?_)
          refine r_bipush (pc := 116) hX dX8_check_116 bp_16 ?_
          refine r_join (P := fun k => J X oI (k) m3 137 [(0, rX X 200), (1, .int v4)] []) ?_ ?_
          · skip
            refine r_iincN (L' := fun w => [(1, .int w), (0, rX X 200)]) (pc := 137) hX 1 dX8_check_137 rfl rfl (by decide) (fun _ => rfl) (fun v6 => ?_)
            refine r_goto (tgt := 102) (pc := 140) hX dX8_check_140 (by decide) ?_
            exact r_sub [1, 0] rfl (hs102 v6)
          intro k137_ hk137_
          refine r_icmp_ne (tgt := 137) (pc := 118) hX dX8_check_118 (by decide) ?_ ?_
          · skip
            exact hk137_
          · skip
            refine r_aload_n (pc := 121) hX 0 dX8_check_121 rfl rfl ?_
            refine r_getR (pc := 122) hX dX8_check_122 fp8_7 k200 rfl g200_3 ?_
            refine r_iload_n (pc := 125) hX 1 dX8_check_125 rfl rfl ?_
            refine r_iald (pc := 126) hX dX8_check_126 k201 (fun v7 => ?_)
            refine r_iconst (pc := 127) hX dX8_check_127 ic_3 ?_
            refine r_icmp_ne (tgt := 137) (pc := 128) hX dX8_check_128 (by decide) ?_ ?_
            · skip
              exact hk137_
            · skip
              refine r_sipush (pc := 131) hX dX8_check_131 sp_300 ?_
              refine r_iload_n (pc := 134) hX 1 dX8_check_134 rfl rfl ?_
              refine r_iadd (pc := 135) hX dX8_check_135 ?_
              exact r_iretI (pc := 136) hX hE dX8_check_136
      exact r_sub [1, 0] rfl (hl102 FU (0 : Int32))
    intro k100_ hk100_
    have hl54 : ∀ n : Nat, ∀ (v8 : Int32) (m9 : Me), J X oI (fx (lb_Mo_check_54 k100_) (fun _ _ => none) n v8 m9) m9 54 [(0, rX X 200), (1, .int v8)] [] := by
      refine fx_ind (fun (f : Int32 → Me → Option (Int32 × Me)) => ∀ (v8 : Int32) (m9 : Me), J X oI (f v8 m9) m9 54 [(0, rX X 200), (1, .int v8)] []) (fun _ _ => r_none) ?_
      intro s54 hs54 v8 m9
      unfold lb_Mo_check_54
      refine r_iload_n (pc := 54) hX 1 dX8_check_54 rfl rfl ?_
      refine r_aload_n (pc := 55) hX 0 dX8_check_55 rfl rfl ?_
      refine r_getI (pc := 56) hX dX8_check_56 fp8_88 k200 (by decide) ?_
      refine r_icmp_ge (tgt := 100) (pc := 59) hX dX8_check_59 (by decide) ?_ ?_
      · skip
        exact r_sub [0] rfl (hk100_ m9)
      · skip
        refine r_aload_n (pc := 62) hX 0 dX8_check_62 rfl rfl ?_
        refine r_getR (pc := 63) hX dX8_check_63 fp8_28 k200 rfl g200_9 ?_
        refine r_iload_n (pc := 66) hX 1 dX8_check_66 rfl rfl ?_
        refine r_iald (pc := 67) hX dX8_check_67 k207 (fun v10 => ?_)
        refine r_bipush (pc := 68) hX dX8_check_68 bp_16 ?_
        refine r_join (P := fun k => ∀ (m11 : Me), J X oI (k m11) m11 94 [(0, rX X 200), (1, .int v8)] []) ?_ ?_
        · intro m11
          refine r_iincN (L' := fun w => [(1, .int w), (0, rX X 200)]) (pc := 94) hX 1 dX8_check_94 rfl rfl (by decide) (fun _ => rfl) (fun v12 => ?_)
          refine r_goto (tgt := 54) (pc := 97) hX dX8_check_97 (by decide) ?_
          exact r_sub [1, 0] rfl (hs54 v12 m11)
        intro k94_ hk94_
        refine r_icmp_eq (tgt := 94) (pc := 70) hX dX8_check_70 (by decide) ?_ ?_
        · skip
          exact hk94_ m9
        · skip
          refine r_aload_n (pc := 73) hX 0 dX8_check_73 rfl rfl ?_
          refine r_iload_n (pc := 74) hX 1 dX8_check_74 rfl rfl ?_
          refine r_aload_n (pc := 75) hX 0 dX8_check_75 rfl rfl ?_
          refine r_getR (pc := 76) hX dX8_check_76 fp8_28 k200 rfl g200_9 ?_
          refine r_iload_n (pc := 79) hX 1 dX8_check_79 rfl rfl ?_
          refine r_iald (pc := 80) hX dX8_check_80 k207 (fun v13 => ?_)
          refine r_cvI (st := []) (pc := 81) hX dX8_check_81 MI_Mo_clashInHand MV_Mo_clashInHand lkX8_218 k200 (c_Mo_clashInHand v8 v13 m9) rfl rfl (Nat.le_of_ble_eq_true rfl) (by decide) (fun v14 m15 => ?_)
          refine r_iconst (pc := 84) hX dX8_check_84 ic_m1 ?_
          refine r_icmp_eq (tgt := 94) (pc := 85) hX dX8_check_85 (by decide) ?_ ?_
          · skip
            exact hk94_ m15
          · skip
            refine r_sipush (pc := 88) hX dX8_check_88 sp_200 ?_
            refine r_iload_n (pc := 91) hX 1 dX8_check_91 rfl rfl ?_
            refine r_iadd (pc := 92) hX dX8_check_92 ?_
            exact r_iretI (pc := 93) hX hE dX8_check_93
    exact r_sub [1, 0] rfl (hl54 FU (0 : Int32) m2)
  intro k52_ hk52_
  have hl7 : ∀ n : Nat, ∀ (v16 : Int32) (m17 : Me), J X oI (fx (lb_Mo_check_7 k52_) (fun _ _ => none) n v16 m17) m17 7 [(0, rX X 200), (1, .int v16)] [] := by
    refine fx_ind (fun (f : Int32 → Me → Option (Int32 × Me)) => ∀ (v16 : Int32) (m17 : Me), J X oI (f v16 m17) m17 7 [(0, rX X 200), (1, .int v16)] []) (fun _ _ => r_none) ?_
    intro s7 hs7 v16 m17
    unfold lb_Mo_check_7
    refine r_iload_n (pc := 7) hX 1 dX8_check_7 rfl rfl ?_
    refine r_aload_n (pc := 8) hX 0 dX8_check_8 rfl rfl ?_
    refine r_getI (pc := 9) hX dX8_check_9 fp8_88 k200 (by decide) ?_
    refine r_icmp_ge (tgt := 52) (pc := 12) hX dX8_check_12 (by decide) ?_ ?_
    · skip
      exact r_sub [0] rfl (hk52_ m17)
    · skip
      refine r_aload_n (pc := 15) hX 0 dX8_check_15 rfl rfl ?_
      refine r_getR (pc := 16) hX dX8_check_16 fp8_28 k200 rfl g200_9 ?_
      refine r_iload_n (pc := 19) hX 1 dX8_check_19 rfl rfl ?_
      refine r_iald (pc := 20) hX dX8_check_20 k207 (fun v18 => ?_)
      refine r_bipush (pc := 21) hX dX8_check_21 bp_16 ?_
      refine r_join (P := fun k => ∀ (m19 : Me), J X oI (k m19) m19 46 [(0, rX X 200), (1, .int v16)] []) ?_ ?_
      · intro m19
        refine r_iincN (L' := fun w => [(1, .int w), (0, rX X 200)]) (pc := 46) hX 1 dX8_check_46 rfl rfl (by decide) (fun _ => rfl) (fun v20 => ?_)
        refine r_goto (tgt := 7) (pc := 49) hX dX8_check_49 (by decide) ?_
        exact r_sub [1, 0] rfl (hs7 v20 m19)
      intro k46_ hk46_
      refine r_icmp_eq (tgt := 46) (pc := 23) hX dX8_check_23 (by decide) ?_ ?_
      · skip
        exact hk46_ m17
      · skip
        refine r_aload_n (pc := 26) hX 0 dX8_check_26 rfl rfl ?_
        refine r_iload_n (pc := 27) hX 1 dX8_check_27 rfl rfl ?_
        refine r_aload_n (pc := 28) hX 0 dX8_check_28 rfl rfl ?_
        refine r_getR (pc := 29) hX dX8_check_29 fp8_28 k200 rfl g200_9 ?_
        refine r_iload_n (pc := 32) hX 1 dX8_check_32 rfl rfl ?_
        refine r_iald (pc := 33) hX dX8_check_33 k207 (fun v21 => ?_)
        refine r_iconst (pc := 34) hX dX8_check_34 ic_0 ?_
        refine r_cvI (st := []) (pc := 35) hX dX8_check_35 MI_Mo_isOpen MV_Mo_isOpen lkX8_201 k200 (c_Mo_isOpen v16 v21 (0 : Int32) m17) rfl rfl (Nat.le_of_ble_eq_true rfl) (by decide) (fun v22 m23 => ?_)
        refine r_if_ne (tgt := 46) (pc := 38) hX dX8_check_38 (by decide) ?_ ?_
        · skip
          exact hk46_ m23
        · skip
          refine r_bipush (pc := 41) hX dX8_check_41 bp_100 ?_
          refine r_iload_n (pc := 43) hX 1 dX8_check_43 rfl rfl ?_
          refine r_iadd (pc := 44) hX dX8_check_44 ?_
          exact r_iretI (pc := 45) hX hE dX8_check_45
  exact r_sub [1, 0] rfl (hl7 FU (0 : Int32) m1)
def f_Mo_worthOf (a0 : Int32) (a1 : Int32) (m : Me) : Option Int32 := if a1 = (16 : Int32) then some (0 : Int32) else rd (ln 206) a0 (m.1 206) (fun v1 => cP (f_Mo_priceOf a0 a1 m) (fun v2 => some (v1 * (((200 : Int32) - v2)))))
set_option maxHeartbeats 4000000 in
set_option maxRecDepth 100000 in
theorem c_Mo_worthOf (a0 : Int32) (a1 : Int32)  (m : Me) (r : Int32) (h : f_Mo_worthOf a0 a1 m = some r) : Ct yX8_worthOf cX8_worthOf 3 (some .int) 1 (fun ad => [.ref (ad 200), .int a0, .int a1]) m (fun ad => (some (.int r), m)) := by
  refine mk_ct (F := f_Mo_worthOf a0 a1 m) (fun _ => oP m) r h (fun _ => rfl) (by decide) (fun _ => Nat.le_of_ble_eq_true rfl) ?_
  intro X hX hE
  show J X (oP m) (f_Mo_worthOf a0 a1 m) m 0 [(0, rX X 200), (1, .int a0), (2, .int a1)] []
  unfold f_Mo_worthOf
  refine r_iload_n (pc := 0) hX 2 dX8_worthOf_0 rfl rfl ?_
  refine r_bipush (pc := 1) hX dX8_worthOf_1 bp_16 ?_
  refine r_icmp_ne (tgt := 10) (pc := 3) hX dX8_worthOf_3 (by decide) ?_ ?_
  · skip
    refine r_aload_n (pc := 10) hX 0 dX8_worthOf_10 rfl rfl ?_
    refine r_getR (pc := 11) hX dX8_worthOf_11 fp8_25 k200 rfl g200_8 ?_
    refine r_iload_n (pc := 14) hX 1 dX8_worthOf_14 rfl rfl ?_
    refine r_iald (pc := 15) hX dX8_worthOf_15 k206 (fun v1 => ?_)
    refine r_sipush (pc := 16) hX dX8_worthOf_16 sp_200 ?_
    refine r_aload_n (pc := 19) hX 0 dX8_worthOf_19 rfl rfl ?_
    refine r_iload_n (pc := 20) hX 1 dX8_worthOf_20 rfl rfl ?_
    refine r_iload_n (pc := 21) hX 2 dX8_worthOf_21 rfl rfl ?_
    refine r_cvP (st := [.int (200 : Int32), .int v1]) (pc := 22) hX dX8_worthOf_22 MI_Mo_priceOf MV_Mo_priceOf lkX8_197 k200 (c_Mo_priceOf a0 a1 m) rfl rfl (Nat.le_of_ble_eq_true rfl) (by decide) (fun v2 => ?_)
    refine r_isub (pc := 25) hX dX8_worthOf_25 ?_
    refine r_imul (pc := 26) hX dX8_worthOf_26 ?_
    exact r_iretP (pc := 27) hX hE dX8_worthOf_27
  · skip
    refine r_iconst (pc := 6) hX dX8_worthOf_6 ic_0 ?_
    refine r_goto (tgt := 27) (pc := 7) hX dX8_worthOf_7 (by decide) ?_
    exact r_iretP (pc := 27) hX hE dX8_worthOf_27
def lb_Mo_worthInHand_4 (m : Me) (s4 : Int32 → Int32 → Option Int32) (v1 : Int32) (v2 : Int32) : Option Int32 := if (m.1 200 1) ≤ v2 then some v1 else rd (ln 207) v2 (m.1 207) (fun v3 => cP (f_Mo_worthOf v2 v3 m) (fun v4 => bd ((v1 + v4)) (fun v5 => bd (v2 + 1) (fun v6 => (s4 v5 v6)))))
def f_Mo_worthInHand  (m : Me) : Option Int32 := ((fx (lb_Mo_worthInHand_4 m) (fun _ _ => none) FU) (0 : Int32) (0 : Int32))
set_option maxHeartbeats 4000000 in
set_option maxRecDepth 100000 in
theorem c_Mo_worthInHand   (m : Me) (r : Int32) (h : f_Mo_worthInHand  m = some r) : Ct yX8_worthInHand cX8_worthInHand 3 (some .int) 2 (fun ad => [.ref (ad 200)]) m (fun ad => (some (.int r), m)) := by
  refine mk_ct (F := f_Mo_worthInHand  m) (fun _ => oP m) r h (fun _ => rfl) (by decide) (fun _ => Nat.le_of_ble_eq_true rfl) ?_
  intro X hX hE
  show J X (oP m) (f_Mo_worthInHand  m) m 0 [(0, rX X 200)] []
  unfold f_Mo_worthInHand
  refine r_iconst (pc := 0) hX dX8_worthInHand_0 ic_0 ?_
  refine r_istore_n (L' := [(1, .int (0 : Int32)), (0, rX X 200)]) (pc := 1) hX dX8_worthInHand_1 rfl (by decide) rfl ?_
  refine r_iconst (pc := 2) hX dX8_worthInHand_2 ic_0 ?_
  refine r_istore_n (L' := [(2, .int (0 : Int32)), (1, .int (0 : Int32)), (0, rX X 200)]) (pc := 3) hX dX8_worthInHand_3 rfl (by decide) rfl ?_
  have hl4 : ∀ n : Nat, ∀ (v1 : Int32) (v2 : Int32), J X (oP m) (fx (lb_Mo_worthInHand_4 m) (fun _ _ => none) n v1 v2) m 4 [(0, rX X 200), (1, .int v1), (2, .int v2)] [] := by
    refine fx_ind (fun (f : Int32 → Int32 → Option Int32) => ∀ (v1 : Int32) (v2 : Int32), J X (oP m) (f v1 v2) m 4 [(0, rX X 200), (1, .int v1), (2, .int v2)] []) (fun _ _ => r_none) ?_
    intro s4 hs4 v1 v2
    unfold lb_Mo_worthInHand_4
    refine r_iload_n (pc := 4) hX 2 dX8_worthInHand_4 rfl rfl ?_
    refine r_aload_n (pc := 5) hX 0 dX8_worthInHand_5 rfl rfl ?_
    refine r_getI (pc := 6) hX dX8_worthInHand_6 fp8_88 k200 (by decide) ?_
    refine r_icmp_ge (tgt := 32) (pc := 9) hX dX8_worthInHand_9 (by decide) ?_ ?_
    · skip
      refine r_iload_n (pc := 32) hX 1 dX8_worthInHand_32 rfl rfl ?_
      exact r_iretP (pc := 33) hX hE dX8_worthInHand_33
    · skip
      refine r_iload_n (pc := 12) hX 1 dX8_worthInHand_12 rfl rfl ?_
      refine r_aload_n (pc := 13) hX 0 dX8_worthInHand_13 rfl rfl ?_
      refine r_iload_n (pc := 14) hX 2 dX8_worthInHand_14 rfl rfl ?_
      refine r_aload_n (pc := 15) hX 0 dX8_worthInHand_15 rfl rfl ?_
      refine r_getR (pc := 16) hX dX8_worthInHand_16 fp8_28 k200 rfl g200_9 ?_
      refine r_iload_n (pc := 19) hX 2 dX8_worthInHand_19 rfl rfl ?_
      refine r_iald (pc := 20) hX dX8_worthInHand_20 k207 (fun v3 => ?_)
      refine r_cvP (st := [.int v1]) (pc := 21) hX dX8_worthInHand_21 MI_Mo_worthOf MV_Mo_worthOf lkX8_221 k200 (c_Mo_worthOf v2 v3 m) rfl rfl (Nat.le_of_ble_eq_true rfl) (by decide) (fun v4 => ?_)
      refine r_iadd (pc := 24) hX dX8_worthInHand_24 ?_
      refine r_nmI (fun v5 => ?_)
      refine r_istore_n (L' := [(1, .int v5), (0, rX X 200), (2, .int v2)]) (pc := 25) hX dX8_worthInHand_25 rfl (by decide) rfl ?_
      refine r_iincN (L' := fun w => [(2, .int w), (1, .int v5), (0, rX X 200)]) (pc := 26) hX 2 dX8_worthInHand_26 rfl rfl (by decide) (fun _ => rfl) (fun v6 => ?_)
      refine r_goto (tgt := 4) (pc := 29) hX dX8_worthInHand_29 (by decide) ?_
      exact r_sub [2, 1, 0] rfl (hs4 v5 v6)
  exact r_sub [2, 1, 0] rfl (hl4 FU (0 : Int32) (0 : Int32))
def f_Mo_worth  (m : Me) : Option (Int32 × Me) := bd (si m 200 0 (0 : Int32)) (fun m1 => cP (f_Mo_worthInHand m1) (fun v2 => some (v2, m1)))
set_option maxHeartbeats 4000000 in
set_option maxRecDepth 100000 in
theorem c_Mo_worth   (m : Me) (r : Int32) (m' : Me) (h : f_Mo_worth  m = some (r, m')) : Ct yX8_worth cX8_worth 1 (some .int) 3 (fun ad => [.ref (ad 200)]) m (fun ad => (some (.int r), m')) := by
  refine mk_ct (F := f_Mo_worth  m) (fun _ => oI) (r, m') h (fun _ => rfl) (by decide) (fun _ => Nat.le_of_ble_eq_true rfl) ?_
  intro X hX hE
  show J X oI (f_Mo_worth  m) m 0 [(0, rX X 200)] []
  unfold f_Mo_worth
  refine r_aload_n (pc := 0) hX 0 dX8_worth_0 rfl rfl ?_
  refine r_iconst (pc := 1) hX dX8_worth_1 ic_0 ?_
  refine r_putI (pc := 2) hX dX8_worth_2 fp8_78 k200 (fun m1 => ?_)
  refine r_aload_n (pc := 5) hX 0 dX8_worth_5 rfl rfl ?_
  refine r_cvP (st := []) (pc := 6) hX dX8_worth_6 MI_Mo_worthInHand MV_Mo_worthInHand lkX8_224 k200 (c_Mo_worthInHand m1) rfl rfl (Nat.le_of_ble_eq_true rfl) (by decide) (fun v2 => ?_)
  exact r_iretI (pc := 9) hX hE dX8_worth_9
def lb_Mo_fits_2 (a0 : Int32) (a1 : Int32) (s2 : Int32 → Me → Option (Int32 × Me)) (v1 : Int32) (m2 : Me) : Option (Int32 × Me) := if a0 ≤ v1 then some ((1 : Int32), m2) else rd (ln 216) v1 (m2.1 216) (fun v3 => bd (fun (m4 : Me) => bd (v1 + 1) (fun v5 => (s2 v5 m4))) (fun k47_ => if v3 = (16 : Int32) then (k47_ m2) else rd (ln 215) a0 (m2.1 215) (fun v6 => rd (ln 215) v1 (m2.1 215) (fun v7 => rd (ln 216) v1 (m2.1 216) (fun v8 => cI (f_Mo_doClash v6 a1 v7 v8 (0 : Int32) m2) (fun v9 m10 => if v9 = 0 then (k47_ m10) else some ((0 : Int32), m10)))))))
def f_Mo_fits (a0 : Int32) (a1 : Int32) (m : Me) : Option (Int32 × Me) := ((fx (lb_Mo_fits_2 a0 a1) (fun _ _ => none) FU) (0 : Int32) m)
set_option maxHeartbeats 4000000 in
set_option maxRecDepth 100000 in
theorem c_Mo_fits (a0 : Int32) (a1 : Int32)  (m : Me) (r : Int32) (m' : Me) (h : f_Mo_fits a0 a1 m = some (r, m')) : Ct yX8_fits cX8_fits 4 (some .boolean) 4 (fun ad => [.ref (ad 200), .int a0, .int a1]) m (fun ad => (some (.int r), m')) := by
  refine mk_ct (F := f_Mo_fits a0 a1 m) (fun _ => oI) (r, m') h (fun _ => rfl) (by decide) (fun _ => Nat.le_of_ble_eq_true rfl) ?_
  intro X hX hE
  show J X oI (f_Mo_fits a0 a1 m) m 0 [(0, rX X 200), (1, .int a0), (2, .int a1)] []
  unfold f_Mo_fits
  refine r_iconst (pc := 0) hX dX8_fits_0 ic_0 ?_
  refine r_istore_n (L' := [(3, .int (0 : Int32)), (0, rX X 200), (1, .int a0), (2, .int a1)]) (pc := 1) hX dX8_fits_1 rfl (by decide) rfl ?_
  have hl2 : ∀ n : Nat, ∀ (v1 : Int32) (m2 : Me), J X oI (fx (lb_Mo_fits_2 a0 a1) (fun _ _ => none) n v1 m2) m2 2 [(0, rX X 200), (1, .int a0), (2, .int a1), (3, .int v1)] [] := by
    refine fx_ind (fun (f : Int32 → Me → Option (Int32 × Me)) => ∀ (v1 : Int32) (m2 : Me), J X oI (f v1 m2) m2 2 [(0, rX X 200), (1, .int a0), (2, .int a1), (3, .int v1)] []) (fun _ _ => r_none) ?_
    intro s2 hs2 v1 m2
    unfold lb_Mo_fits_2
    refine r_iload_n (pc := 2) hX 3 dX8_fits_2 rfl rfl ?_
    refine r_iload_n (pc := 3) hX 1 dX8_fits_3 rfl rfl ?_
    refine r_icmp_ge (tgt := 53) (pc := 4) hX dX8_fits_4 (by decide) ?_ ?_
    · skip
      refine r_iconst (pc := 53) hX dX8_fits_53 ic_1 ?_
      exact r_zretIk (pc := 54) hX hE dX8_fits_54 (by decide)
    · skip
      refine r_aload_n (pc := 7) hX 0 dX8_fits_7 rfl rfl ?_
      refine r_getR (pc := 8) hX dX8_fits_8 fp8_57 k200 rfl g200_30 ?_
      refine r_iload_n (pc := 11) hX 3 dX8_fits_11 rfl rfl ?_
      refine r_iald (pc := 12) hX dX8_fits_12 k216 (fun v3 => ?_)
      refine r_bipush (pc := 13) hX dX8_fits_13 bp_16 ?_
      refine r_join (P := fun k => ∀ (m4 : Me), J X oI (k m4) m4 47 [(0, rX X 200), (1, .int a0), (2, .int a1), (3, .int v1)] []) ?_ ?_
      · intro m4
        refine r_iincN (L' := fun w => [(3, .int w), (0, rX X 200), (1, .int a0), (2, .int a1)]) (pc := 47) hX 3 dX8_fits_47 rfl rfl (by decide) (fun _ => rfl) (fun v5 => ?_)
        refine r_goto (tgt := 2) (pc := 50) hX dX8_fits_50 (by decide) ?_
        exact r_sub [1, 2, 3, 0] rfl (hs2 v5 m4)
      intro k47_ hk47_
      refine r_icmp_eq (tgt := 47) (pc := 15) hX dX8_fits_15 (by decide) ?_ ?_
      · skip
        exact hk47_ m2
      · skip
        refine r_aload_n (pc := 18) hX 0 dX8_fits_18 rfl rfl ?_
        refine r_aload_n (pc := 19) hX 0 dX8_fits_19 rfl rfl ?_
        refine r_getR (pc := 20) hX dX8_fits_20 fp8_54 k200 rfl g200_28 ?_
        refine r_iload_n (pc := 23) hX 1 dX8_fits_23 rfl rfl ?_
        refine r_iald (pc := 24) hX dX8_fits_24 k215 (fun v6 => ?_)
        refine r_iload_n (pc := 25) hX 2 dX8_fits_25 rfl rfl ?_
        refine r_aload_n (pc := 26) hX 0 dX8_fits_26 rfl rfl ?_
        refine r_getR (pc := 27) hX dX8_fits_27 fp8_54 k200 rfl g200_28 ?_
        refine r_iload_n (pc := 30) hX 3 dX8_fits_30 rfl rfl ?_
        refine r_iald (pc := 31) hX dX8_fits_31 k215 (fun v7 => ?_)
        refine r_aload_n (pc := 32) hX 0 dX8_fits_32 rfl rfl ?_
        refine r_getR (pc := 33) hX dX8_fits_33 fp8_57 k200 rfl g200_30 ?_
        refine r_iload_n (pc := 36) hX 3 dX8_fits_36 rfl rfl ?_
        refine r_iald (pc := 37) hX dX8_fits_37 k216 (fun v8 => ?_)
        refine r_iconst (pc := 38) hX dX8_fits_38 ic_0 ?_
        refine r_cvI (st := []) (pc := 39) hX dX8_fits_39 MI_Mo_doClash MV_Mo_doClash lkX8_204 k200 (c_Mo_doClash v6 a1 v7 v8 (0 : Int32) m2) rfl rfl (Nat.le_of_ble_eq_true rfl) (by decide) (fun v9 m10 => ?_)
        refine r_if_eq (tgt := 47) (pc := 42) hX dX8_fits_42 (by decide) ?_ ?_
        · skip
          exact hk47_ m10
        · skip
          refine r_iconst (pc := 45) hX dX8_fits_45 ic_0 ?_
          exact r_zretIk (pc := 46) hX hE dX8_fits_46 (by decide)
  exact r_sub [1, 2, 3, 0] rfl (hl2 FU (0 : Int32) m)
def lb_Mo_tryFrom_76 (a0 : Int32) (a1 : Int32) (rec : Int32 → Int32 → Me → Option Me) (v2 : Int32) (k138_ : Me → Option Me) (s76 : Int32 → Me → Option Me) (v7 : Int32) (m8 : Me) : Option Me := if (16 : Int32) ≤ v7 then (k138_ m8) else rd (ln 214) ((((16 : Int32) * v2)) + v7) (m8.1 214) (fun v9 => bd (fun (m10 : Me) => bd (v7 + 1) (fun v11 => (s76 v11 m10))) (fun k132_ => if v9 = 0 then (k132_ m8) else cI (f_Mo_fits a0 v7 m8) (fun v12 m13 => if v12 = 0 then (k132_ m13) else wi m13 216 (ln 216) a0 v7 (fun m14 => cP (f_Mo_worthOf v2 v7 m14) (fun v15 => cP (rec (a0 + (1 : Int32)) (a1 + v15) m14) (fun m16 => (k132_ m16)))))))
def lb_Mo_tryFrom_23  (s23 : Int32 → Me → Option Me) (v18 : Int32) (m19 : Me) : Option Me := if (m19.1 200 29) ≤ v18 then some m19 else rd (ln 216) v18 (m19.1 216) (fun v20 => wi m19 217 (ln 217) v18 v20 (fun m21 => bd (v18 + 1) (fun v22 => (s23 v22 m21))))
def fb_Mo_tryFrom (rec : Int32 → Int32 → Me → Option Me) (a0 : Int32) (a1 : Int32) (m : Me) : Option Me := if a0 = (m.1 200 29) then if a1 ≤ (m.1 200 32) then some m else bd (si m 200 32 a1) (fun m17 => ((fx (lb_Mo_tryFrom_23) (fun _ _ => none) FU) (0 : Int32) m17)) else rd (ln 218) a0 (m.1 218) (fun v1 => if (m.1 200 32) < (a1 + v1) then rd (ln 215) a0 (m.1 215) (fun v2 => bd (fun (m3 : Me) => rd (ln 201) v2 (m3.1 201) (fun v4 => if v4 = (3 : Int32) then some m3 else wi m3 216 (ln 216) a0 (16 : Int32) (fun m5 => cP (rec (a0 + (1 : Int32)) a1 m5) (fun m6 => some m6)))) (fun k138_ => ((fx (lb_Mo_tryFrom_76 a0 a1 rec v2 k138_) (fun _ _ => none) FU) (0 : Int32) m))) else some m)
def f_Mo_tryFrom (n : Nat) : Int32 → Int32 → Me → Option Me := fx fb_Mo_tryFrom (fun _ _ _ => none) n
set_option maxHeartbeats 4000000 in
set_option maxRecDepth 100000 in
theorem c_Mo_tryFrom : ∀ (n : Nat) (a0 : Int32) (a1 : Int32)  (m : Me) (r : Me) (h : f_Mo_tryFrom n a0 a1 m = some r), Ct yX8_tryFrom cX8_tryFrom 5 none (5 + n) (fun ad => [.ref (ad 200), .int a0, .int a1]) m (fun ad => (none, r)) := by
  intro n
  induction n with
  | zero => intro a0 a1  m r h; cases h
  | succ n ih =>
  intro a0 a1  m r h
  refine mk_ct (F := fb_Mo_tryFrom (f_Mo_tryFrom n) a0 a1 m) (fun _ => oV) r h (fun _ => rfl) (by decide) (fun _ => Nat.le_of_ble_eq_true rfl) ?_
  intro X hX hE
  generalize f_Mo_tryFrom n = rec at ih ⊢
  show J X oV (fb_Mo_tryFrom rec a0 a1 m) m 0 [(0, rX X 200), (1, .int a0), (2, .int a1)] []
  unfold fb_Mo_tryFrom
  refine r_iload_n (pc := 0) hX 1 dX8_tryFrom_0 rfl rfl ?_
  refine r_aload_n (pc := 1) hX 0 dX8_tryFrom_1 rfl rfl ?_
  refine r_getI (pc := 2) hX dX8_tryFrom_2 fp8_227 k200 (by decide) ?_
  refine r_icmp_ne (tgt := 50) (pc := 5) hX dX8_tryFrom_5 (by decide) ?_ ?_
  · skip
    refine r_iload_n (pc := 50) hX 2 dX8_tryFrom_50 rfl rfl ?_
    refine r_aload_n (pc := 51) hX 0 dX8_tryFrom_51 rfl rfl ?_
    refine r_getR (pc := 52) hX dX8_tryFrom_52 fp8_63 k200 rfl g200_33 ?_
    refine r_iload_n (pc := 55) hX 1 dX8_tryFrom_55 rfl rfl ?_
    refine r_iald (pc := 56) hX dX8_tryFrom_56 k218 (fun v1 => ?_)
    refine r_iadd (pc := 57) hX dX8_tryFrom_57 ?_
    refine r_aload_n (pc := 58) hX 0 dX8_tryFrom_58 rfl rfl ?_
    refine r_getI (pc := 59) hX dX8_tryFrom_59 fp8_230 k200 (by decide) ?_
    refine r_icmp_gt (tgt := 66) (pc := 62) hX dX8_tryFrom_62 (by decide) ?_ ?_
    · skip
      refine r_aload_n (pc := 66) hX 0 dX8_tryFrom_66 rfl rfl ?_
      refine r_getR (pc := 67) hX dX8_tryFrom_67 fp8_54 k200 rfl g200_28 ?_
      refine r_iload_n (pc := 70) hX 1 dX8_tryFrom_70 rfl rfl ?_
      refine r_iald (pc := 71) hX dX8_tryFrom_71 k215 (fun v2 => ?_)
      refine r_istore_n (L' := [(3, .int v2), (0, rX X 200), (1, .int a0), (2, .int a1)]) (pc := 72) hX dX8_tryFrom_72 rfl (by decide) rfl ?_
      refine r_iconst (pc := 73) hX dX8_tryFrom_73 ic_0 ?_
      refine r_istore (L' := [(4, .int (0 : Int32)), (3, .int v2), (0, rX X 200), (1, .int a0), (2, .int a1)]) (pc := 74) hX dX8_tryFrom_74 (by decide) rfl ?_
      refine r_join (P := fun k => ∀ (m3 : Me), J X oV (k m3) m3 138 [(0, rX X 200), (1, .int a0), (2, .int a1), (3, .int v2)] []) ?_ ?_
      · intro m3
        refine r_aload_n (pc := 138) hX 0 dX8_tryFrom_138 rfl rfl ?_
        refine r_getR (pc := 139) hX dX8_tryFrom_139 fp8_7 k200 rfl g200_3 ?_
        refine r_iload_n (pc := 142) hX 3 dX8_tryFrom_142 rfl rfl ?_
        refine r_iald (pc := 143) hX dX8_tryFrom_143 k201 (fun v4 => ?_)
        refine r_iconst (pc := 144) hX dX8_tryFrom_144 ic_3 ?_
        refine r_icmp_eq (tgt := 164) (pc := 145) hX dX8_tryFrom_145 (by decide) ?_ ?_
        · skip
          exact r_vret (pc := 164) hX hE dX8_tryFrom_164
        · skip
          refine r_aload_n (pc := 148) hX 0 dX8_tryFrom_148 rfl rfl ?_
          refine r_getR (pc := 149) hX dX8_tryFrom_149 fp8_57 k200 rfl g200_30 ?_
          refine r_iload_n (pc := 152) hX 1 dX8_tryFrom_152 rfl rfl ?_
          refine r_bipush (pc := 153) hX dX8_tryFrom_153 bp_16 ?_
          refine r_iast (pc := 155) hX dX8_tryFrom_155 k216 (fun m5 => ?_)
          refine r_aload_n (pc := 156) hX 0 dX8_tryFrom_156 rfl rfl ?_
          refine r_iload_n (pc := 157) hX 1 dX8_tryFrom_157 rfl rfl ?_
          refine r_iconst (pc := 158) hX dX8_tryFrom_158 ic_1 ?_
          refine r_iadd (pc := 159) hX dX8_tryFrom_159 ?_
          refine r_iload_n (pc := 160) hX 2 dX8_tryFrom_160 rfl rfl ?_
          refine r_cvV (st := []) (pc := 161) hX dX8_tryFrom_161 MI_Mo_tryFrom MV_Mo_tryFrom lkX8_236 k200 (ih (a0 + (1 : Int32)) a1 m5) rfl rfl (Nat.le_of_ble_eq_true rfl) (by omega) (fun m6 => ?_)
          exact r_vret (pc := 164) hX hE dX8_tryFrom_164
      intro k138_ hk138_
      have hl76 : ∀ n : Nat, ∀ (v7 : Int32) (m8 : Me), J X oV (fx (lb_Mo_tryFrom_76 a0 a1 rec v2 k138_) (fun _ _ => none) n v7 m8) m8 76 [(0, rX X 200), (1, .int a0), (2, .int a1), (3, .int v2), (4, .int v7)] [] := by
        refine fx_ind (fun (f : Int32 → Me → Option Me) => ∀ (v7 : Int32) (m8 : Me), J X oV (f v7 m8) m8 76 [(0, rX X 200), (1, .int a0), (2, .int a1), (3, .int v2), (4, .int v7)] []) (fun _ _ => r_none) ?_
        intro s76 hs76 v7 m8
        unfold lb_Mo_tryFrom_76
        refine r_iload (pc := 76) hX 4 dX8_tryFrom_76 rfl ?_
        refine r_bipush (pc := 78) hX dX8_tryFrom_78 bp_16 ?_
        refine r_icmp_ge (tgt := 138) (pc := 80) hX dX8_tryFrom_80 (by decide) ?_ ?_
        · skip
          exact r_sub [0, 1, 2, 3] rfl (hk138_ m8)
        · skip
          refine r_aload_n (pc := 83) hX 0 dX8_tryFrom_83 rfl rfl ?_
          refine r_getR (pc := 84) hX dX8_tryFrom_84 fp8_50 k200 rfl g200_27 ?_
          refine r_bipush (pc := 87) hX dX8_tryFrom_87 bp_16 ?_
          refine r_iload_n (pc := 89) hX 3 dX8_tryFrom_89 rfl rfl ?_
          refine r_imul (pc := 90) hX dX8_tryFrom_90 ?_
          refine r_iload (pc := 91) hX 4 dX8_tryFrom_91 rfl ?_
          refine r_iadd (pc := 93) hX dX8_tryFrom_93 ?_
          refine r_zald (pc := 94) hX dX8_tryFrom_94 k214 (fun v9 => ?_)
          refine r_join (P := fun k => ∀ (m10 : Me), J X oV (k m10) m10 132 [(0, rX X 200), (1, .int a0), (2, .int a1), (3, .int v2), (4, .int v7)] []) ?_ ?_
          · intro m10
            refine r_iincN (L' := fun w => [(4, .int w), (0, rX X 200), (1, .int a0), (2, .int a1), (3, .int v2)]) (pc := 132) hX 4 dX8_tryFrom_132 rfl rfl (by decide) (fun _ => rfl) (fun v11 => ?_)
            refine r_goto (tgt := 76) (pc := 135) hX dX8_tryFrom_135 (by decide) ?_
            exact r_sub [1, 2, 3, 4, 0] rfl (hs76 v11 m10)
          intro k132_ hk132_
          refine r_if_eq (tgt := 132) (pc := 95) hX dX8_tryFrom_95 (by decide) ?_ ?_
          · skip
            exact hk132_ m8
          · skip
            refine r_aload_n (pc := 98) hX 0 dX8_tryFrom_98 rfl rfl ?_
            refine r_iload_n (pc := 99) hX 1 dX8_tryFrom_99 rfl rfl ?_
            refine r_iload (pc := 100) hX 4 dX8_tryFrom_100 rfl ?_
            refine r_cvI (st := []) (pc := 102) hX dX8_tryFrom_102 MI_Mo_fits MV_Mo_fits lkX8_233 k200 (c_Mo_fits a0 v7 m8) rfl rfl (Nat.le_of_ble_eq_true rfl) (by omega) (fun v12 m13 => ?_)
            refine r_if_eq (tgt := 132) (pc := 105) hX dX8_tryFrom_105 (by decide) ?_ ?_
            · skip
              exact hk132_ m13
            · skip
              refine r_aload_n (pc := 108) hX 0 dX8_tryFrom_108 rfl rfl ?_
              refine r_getR (pc := 109) hX dX8_tryFrom_109 fp8_57 k200 rfl g200_30 ?_
              refine r_iload_n (pc := 112) hX 1 dX8_tryFrom_112 rfl rfl ?_
              refine r_iload (pc := 113) hX 4 dX8_tryFrom_113 rfl ?_
              refine r_iast (pc := 115) hX dX8_tryFrom_115 k216 (fun m14 => ?_)
              refine r_aload_n (pc := 116) hX 0 dX8_tryFrom_116 rfl rfl ?_
              refine r_iload_n (pc := 117) hX 1 dX8_tryFrom_117 rfl rfl ?_
              refine r_iconst (pc := 118) hX dX8_tryFrom_118 ic_1 ?_
              refine r_iadd (pc := 119) hX dX8_tryFrom_119 ?_
              refine r_iload_n (pc := 120) hX 2 dX8_tryFrom_120 rfl rfl ?_
              refine r_aload_n (pc := 121) hX 0 dX8_tryFrom_121 rfl rfl ?_
              refine r_iload_n (pc := 122) hX 3 dX8_tryFrom_122 rfl rfl ?_
              refine r_iload (pc := 123) hX 4 dX8_tryFrom_123 rfl ?_
              refine r_cvP (st := [.int a1, .int (a0 + (1 : Int32)), rX X 200]) (pc := 125) hX dX8_tryFrom_125 MI_Mo_worthOf MV_Mo_worthOf lkX8_221 k200 (c_Mo_worthOf v2 v7 m14) rfl rfl (Nat.le_of_ble_eq_true rfl) (by omega) (fun v15 => ?_)
              refine r_iadd (pc := 128) hX dX8_tryFrom_128 ?_
              refine r_cvV (st := []) (pc := 129) hX dX8_tryFrom_129 MI_Mo_tryFrom MV_Mo_tryFrom lkX8_236 k200 (ih (a0 + (1 : Int32)) (a1 + v15) m14) rfl rfl (Nat.le_of_ble_eq_true rfl) (by omega) (fun m16 => ?_)
              exact hk132_ m16
      exact r_sub [2, 3, 4, 1, 0] rfl (hl76 FU (0 : Int32) m)
    · skip
      exact r_vret (pc := 65) hX hE dX8_tryFrom_65
  · skip
    refine r_iload_n (pc := 8) hX 2 dX8_tryFrom_8 rfl rfl ?_
    refine r_aload_n (pc := 9) hX 0 dX8_tryFrom_9 rfl rfl ?_
    refine r_getI (pc := 10) hX dX8_tryFrom_10 fp8_230 k200 (by decide) ?_
    refine r_icmp_le (tgt := 49) (pc := 13) hX dX8_tryFrom_13 (by decide) ?_ ?_
    · skip
      exact r_vret (pc := 49) hX hE dX8_tryFrom_49
    · skip
      refine r_aload_n (pc := 16) hX 0 dX8_tryFrom_16 rfl rfl ?_
      refine r_iload_n (pc := 17) hX 2 dX8_tryFrom_17 rfl rfl ?_
      refine r_putI (pc := 18) hX dX8_tryFrom_18 fp8_230 k200 (fun m17 => ?_)
      refine r_iconst (pc := 21) hX dX8_tryFrom_21 ic_0 ?_
      refine r_istore_n (L' := [(3, .int (0 : Int32)), (0, rX X 200), (1, .int a0), (2, .int a1)]) (pc := 22) hX dX8_tryFrom_22 rfl (by decide) rfl ?_
      have hl23 : ∀ n : Nat, ∀ (v18 : Int32) (m19 : Me), J X oV (fx (lb_Mo_tryFrom_23) (fun _ _ => none) n v18 m19) m19 23 [(0, rX X 200), (3, .int v18)] [] := by
        refine fx_ind (fun (f : Int32 → Me → Option Me) => ∀ (v18 : Int32) (m19 : Me), J X oV (f v18 m19) m19 23 [(0, rX X 200), (3, .int v18)] []) (fun _ _ => r_none) ?_
        intro s23 hs23 v18 m19
        unfold lb_Mo_tryFrom_23
        refine r_iload_n (pc := 23) hX 1 dX8_tryFrom_23 rfl rfl ?_
        refine r_aload_n (pc := 24) hX 0 dX8_tryFrom_24 rfl rfl ?_
        refine r_getI (pc := 25) hX dX8_tryFrom_25 fp8_227 k200 (by decide) ?_
        refine r_icmp_ge (tgt := 49) (pc := 28) hX dX8_tryFrom_28 (by decide) ?_ ?_
        · skip
          exact r_vret (pc := 49) hX hE dX8_tryFrom_49
        · skip
          refine r_aload_n (pc := 31) hX 0 dX8_tryFrom_31 rfl rfl ?_
          refine r_getR (pc := 32) hX dX8_tryFrom_32 fp8_60 k200 rfl g200_31 ?_
          refine r_iload_n (pc := 35) hX 1 dX8_tryFrom_35 rfl rfl ?_
          refine r_aload_n (pc := 36) hX 0 dX8_tryFrom_36 rfl rfl ?_
          refine r_getR (pc := 37) hX dX8_tryFrom_37 fp8_57 k200 rfl g200_30 ?_
          refine r_iload_n (pc := 40) hX 1 dX8_tryFrom_40 rfl rfl ?_
          refine r_iald (pc := 41) hX dX8_tryFrom_41 k216 (fun v20 => ?_)
          refine r_iast (pc := 42) hX dX8_tryFrom_42 k217 (fun m21 => ?_)
          refine r_iincN (L' := fun w => [(3, .int w), (0, rX X 200)]) (pc := 43) hX 1 dX8_tryFrom_43 rfl rfl (by decide) (fun _ => rfl) (fun v22 => ?_)
          refine r_goto (tgt := 23) (pc := 46) hX dX8_tryFrom_46 (by decide) ?_
          exact r_sub [1, 0] rfl (hs23 v22 m21)
      exact r_sub [1, 0] rfl (hl23 FU (0 : Int32) m17)
def lb_Mo_bestOf_77 (v8 : Int32) (m9 : Me) (k141_ : Int32 → Option (Int32 × Me)) (s77 : Int32 → Int32 → Option (Int32 × Me)) (v14 : Int32) (v15 : Int32) : Option (Int32 × Me) := if (16 : Int32) ≤ v15 then (k141_ v14) else rd (ln 215) v8 (m9.1 215) (fun v16 => rd (ln 214) ((((16 : Int32) * v16)) + v15) (m9.1 214) (fun v17 => bd (fun (v18 : Int32) => bd (fun (v19 : Int32) => bd (v15 + 1) (fun v20 => (s77 v19 v20))) (fun k134_ => if v18 ≤ v14 then (k134_ v14) else (k134_ v18))) (fun k120_ => if v17 = 0 then (k120_ (0 : Int32)) else rd (ln 215) v8 (m9.1 215) (fun v21 => cP (f_Mo_worthOf v21 v15 m9) (fun v22 => (k120_ v22))))))
def lb_Mo_bestOf_68 (k163_ : Me → Option (Int32 × Me)) (s68 : Int32 → Me → Option (Int32 × Me)) (v8 : Int32) (m9 : Me) : Option (Int32 × Me) := if v8 < 0 then (k163_ m9) else bd (fun (v10 : Int32) => rd (ln 218) (v8 + (1 : Int32)) (m9.1 218) (fun v11 => wi m9 218 (ln 218) v8 (v11 + v10) (fun m12 => bd (v8 + Int32.ofInt (-1)) (fun v13 => (s68 v13 m12))))) (fun k141_ => ((fx (lb_Mo_bestOf_77 v8 m9 k141_) (fun _ _ => none) FU) (0 : Int32) (0 : Int32)))
def lb_Mo_bestOf_7 (a0 : Int32) (k51_ : Me → Option (Int32 × Me)) (s7 : Int32 → Me → Option (Int32 × Me)) (v23 : Int32) (m24 : Me) : Option (Int32 × Me) := if (m24.1 200 1) ≤ v23 then (k51_ m24) else rd (ln 213) v23 (m24.1 213) (fun v25 => bd (fun (m26 : Me) => bd (v23 + 1) (fun v27 => (s7 v27 m26))) (fun k45_ => if v25 = a0 then wi m24 215 (ln 215) (m24.1 200 29) v23 (fun m28 => bd (si m28 200 29 (((m28.1 200 29)) + (1 : Int32))) (fun m29 => (k45_ m29))) else (k45_ m24)))
def f_Mo_bestOf (a0 : Int32) (m : Me) : Option (Int32 × Me) := bd (si m 200 29 (0 : Int32)) (fun m1 => bd (fun (m2 : Me) => wi m2 218 (ln 218) (m2.1 200 29) (0 : Int32) (fun m3 => bd ((((m3.1 200 29)) - (1 : Int32))) (fun v4 => bd (fun (m5 : Me) => bd (si m5 200 32 (-1 : Int32)) (fun m6 => cP (f_Mo_tryFrom 30 (0 : Int32) (0 : Int32) m6) (fun m7 => if (m7.1 200 32) < 0 then some ((0 : Int32), m7) else some ((1 : Int32), m7)))) (fun k163_ => ((fx (lb_Mo_bestOf_68 k163_) (fun _ _ => none) FU) v4 m3))))) (fun k51_ => ((fx (lb_Mo_bestOf_7 a0 k51_) (fun _ _ => none) FU) (0 : Int32) m1)))
set_option maxHeartbeats 4000000 in
set_option maxRecDepth 100000 in
theorem c_Mo_bestOf (a0 : Int32)  (m : Me) (r : Int32) (m' : Me) (h : f_Mo_bestOf a0 m = some (r, m')) : Ct yX8_bestOf cX8_bestOf 6 (some .boolean) 37 (fun ad => [.ref (ad 200), .int a0]) m (fun ad => (some (.int r), m')) := by
  refine mk_ct (F := f_Mo_bestOf a0 m) (fun _ => oI) (r, m') h (fun _ => rfl) (by decide) (fun _ => Nat.le_of_ble_eq_true rfl) ?_
  intro X hX hE
  show J X oI (f_Mo_bestOf a0 m) m 0 [(0, rX X 200), (1, .int a0)] []
  unfold f_Mo_bestOf
  refine r_aload_n (pc := 0) hX 0 dX8_bestOf_0 rfl rfl ?_
  refine r_iconst (pc := 1) hX dX8_bestOf_1 ic_0 ?_
  refine r_putI (pc := 2) hX dX8_bestOf_2 fp8_227 k200 (fun m1 => ?_)
  refine r_iconst (pc := 5) hX dX8_bestOf_5 ic_0 ?_
  refine r_istore_n (L' := [(2, .int (0 : Int32)), (0, rX X 200), (1, .int a0)]) (pc := 6) hX dX8_bestOf_6 rfl (by decide) rfl ?_
  refine r_join (P := fun k => ∀ (m2 : Me), J X oI (k m2) m2 51 [(0, rX X 200)] []) ?_ ?_
  · intro m2
    refine r_aload_n (pc := 51) hX 0 dX8_bestOf_51 rfl rfl ?_
    refine r_getR (pc := 52) hX dX8_bestOf_52 fp8_63 k200 rfl g200_33 ?_
    refine r_aload_n (pc := 55) hX 0 dX8_bestOf_55 rfl rfl ?_
    refine r_getI (pc := 56) hX dX8_bestOf_56 fp8_227 k200 (by decide) ?_
    refine r_iconst (pc := 59) hX dX8_bestOf_59 ic_0 ?_
    refine r_iast (pc := 60) hX dX8_bestOf_60 k218 (fun m3 => ?_)
    refine r_aload_n (pc := 61) hX 0 dX8_bestOf_61 rfl rfl ?_
    refine r_getI (pc := 62) hX dX8_bestOf_62 fp8_227 k200 (by decide) ?_
    refine r_iconst (pc := 65) hX dX8_bestOf_65 ic_1 ?_
    refine r_isub (pc := 66) hX dX8_bestOf_66 ?_
    refine r_nmI (fun v4 => ?_)
    refine r_istore_n (L' := [(2, .int v4), (0, rX X 200)]) (pc := 67) hX dX8_bestOf_67 rfl (by decide) rfl ?_
    refine r_join (P := fun k => ∀ (m5 : Me), J X oI (k m5) m5 163 [(0, rX X 200)] []) ?_ ?_
    · intro m5
      refine r_aload_n (pc := 163) hX 0 dX8_bestOf_163 rfl rfl ?_
      refine r_iconst (pc := 164) hX dX8_bestOf_164 ic_m1 ?_
      refine r_putI (pc := 165) hX dX8_bestOf_165 fp8_230 k200 (fun m6 => ?_)
      refine r_aload_n (pc := 168) hX 0 dX8_bestOf_168 rfl rfl ?_
      refine r_iconst (pc := 169) hX dX8_bestOf_169 ic_0 ?_
      refine r_iconst (pc := 170) hX dX8_bestOf_170 ic_0 ?_
      refine r_cvV (st := []) (pc := 171) hX dX8_bestOf_171 MI_Mo_tryFrom MV_Mo_tryFrom lkX8_236 k200 (c_Mo_tryFrom 30 (0 : Int32) (0 : Int32) m6) rfl rfl (Nat.le_of_ble_eq_true rfl) (by decide) (fun m7 => ?_)
      refine r_aload_n (pc := 174) hX 0 dX8_bestOf_174 rfl rfl ?_
      refine r_getI (pc := 175) hX dX8_bestOf_175 fp8_230 k200 (by decide) ?_
      refine r_if_lt (tgt := 185) (pc := 178) hX dX8_bestOf_178 (by decide) ?_ ?_
      · skip
        refine r_iconst (pc := 185) hX dX8_bestOf_185 ic_0 ?_
        exact r_zretIk (pc := 186) hX hE dX8_bestOf_186 (by decide)
      · skip
        refine r_iconst (pc := 181) hX dX8_bestOf_181 ic_1 ?_
        refine r_goto (tgt := 186) (pc := 182) hX dX8_bestOf_182 (by decide) ?_
        exact r_zretIk (pc := 186) hX hE dX8_bestOf_186 (by decide)
    intro k163_ hk163_
    have hl68 : ∀ n : Nat, ∀ (v8 : Int32) (m9 : Me), J X oI (fx (lb_Mo_bestOf_68 k163_) (fun _ _ => none) n v8 m9) m9 68 [(0, rX X 200), (2, .int v8)] [] := by
      refine fx_ind (fun (f : Int32 → Me → Option (Int32 × Me)) => ∀ (v8 : Int32) (m9 : Me), J X oI (f v8 m9) m9 68 [(0, rX X 200), (2, .int v8)] []) (fun _ _ => r_none) ?_
      intro s68 hs68 v8 m9
      unfold lb_Mo_bestOf_68
      refine r_iload_n (pc := 68) hX 1 dX8_bestOf_68 rfl rfl ?_
      refine r_if_lt (tgt := 163) (pc := 69) hX dX8_bestOf_69 (by decide) ?_ ?_
      · skip
        exact r_sub [0] rfl (hk163_ m9)
      · skip
        refine r_iconst (pc := 72) hX dX8_bestOf_72 ic_0 ?_
        refine r_istore_n (L' := [(3, .int (0 : Int32)), (0, rX X 200), (2, .int v8)]) (pc := 73) hX dX8_bestOf_73 rfl (by decide) rfl ?_
        refine r_iconst (pc := 74) hX dX8_bestOf_74 ic_0 ?_
        refine r_istore (L' := [(4, .int (0 : Int32)), (3, .int (0 : Int32)), (0, rX X 200), (2, .int v8)]) (pc := 75) hX dX8_bestOf_75 (by decide) rfl ?_
        refine r_join (P := fun k => ∀ (v10 : Int32), J X oI (k v10) m9 141 [(0, rX X 200), (2, .int v8), (3, .int v10)] []) ?_ ?_
        · intro v10
          refine r_aload_n (pc := 141) hX 0 dX8_bestOf_141 rfl rfl ?_
          refine r_getR (pc := 142) hX dX8_bestOf_142 fp8_63 k200 rfl g200_33 ?_
          refine r_iload_n (pc := 145) hX 1 dX8_bestOf_145 rfl rfl ?_
          refine r_aload_n (pc := 146) hX 0 dX8_bestOf_146 rfl rfl ?_
          refine r_getR (pc := 147) hX dX8_bestOf_147 fp8_63 k200 rfl g200_33 ?_
          refine r_iload_n (pc := 150) hX 1 dX8_bestOf_150 rfl rfl ?_
          refine r_iconst (pc := 151) hX dX8_bestOf_151 ic_1 ?_
          refine r_iadd (pc := 152) hX dX8_bestOf_152 ?_
          refine r_iald (pc := 153) hX dX8_bestOf_153 k218 (fun v11 => ?_)
          refine r_iload_n (pc := 154) hX 2 dX8_bestOf_154 rfl rfl ?_
          refine r_iadd (pc := 155) hX dX8_bestOf_155 ?_
          refine r_iast (pc := 156) hX dX8_bestOf_156 k218 (fun m12 => ?_)
          refine r_iincN (L' := fun w => [(2, .int w), (0, rX X 200), (3, .int v10)]) (pc := 157) hX 1 dX8_bestOf_157 rfl rfl (by decide) (fun _ => rfl) (fun v13 => ?_)
          refine r_goto (tgt := 68) (pc := 160) hX dX8_bestOf_160 (by decide) ?_
          exact r_sub [1, 0] rfl (hs68 v13 m12)
        intro k141_ hk141_
        have hl77 : ∀ n : Nat, ∀ (v14 : Int32) (v15 : Int32), J X oI (fx (lb_Mo_bestOf_77 v8 m9 k141_) (fun _ _ => none) n v14 v15) m9 77 [(0, rX X 200), (2, .int v8), (3, .int v14), (4, .int v15)] [] := by
          refine fx_ind (fun (f : Int32 → Int32 → Option (Int32 × Me)) => ∀ (v14 : Int32) (v15 : Int32), J X oI (f v14 v15) m9 77 [(0, rX X 200), (2, .int v8), (3, .int v14), (4, .int v15)] []) (fun _ _ => r_none) ?_
          intro s77 hs77 v14 v15
          unfold lb_Mo_bestOf_77
          refine r_iload (pc := 77) hX 3 dX8_bestOf_77 rfl ?_
          refine r_bipush (pc := 79) hX dX8_bestOf_79 bp_16 ?_
          refine r_icmp_ge (tgt := 141) (pc := 81) hX dX8_bestOf_81 (by decide) ?_ ?_
          · skip
            exact r_sub [0, 1, 2] rfl (hk141_ v14)
          · skip
            refine r_aload_n (pc := 84) hX 0 dX8_bestOf_84 rfl rfl ?_
            refine r_getR (pc := 85) hX dX8_bestOf_85 fp8_50 k200 rfl g200_27 ?_
            refine r_bipush (pc := 88) hX dX8_bestOf_88 bp_16 ?_
            refine r_aload_n (pc := 90) hX 0 dX8_bestOf_90 rfl rfl ?_
            refine r_getR (pc := 91) hX dX8_bestOf_91 fp8_54 k200 rfl g200_28 ?_
            refine r_iload_n (pc := 94) hX 1 dX8_bestOf_94 rfl rfl ?_
            refine r_iald (pc := 95) hX dX8_bestOf_95 k215 (fun v16 => ?_)
            refine r_imul (pc := 96) hX dX8_bestOf_96 ?_
            refine r_iload (pc := 97) hX 3 dX8_bestOf_97 rfl ?_
            refine r_iadd (pc := 99) hX dX8_bestOf_99 ?_
            refine r_zald (pc := 100) hX dX8_bestOf_100 k214 (fun v17 => ?_)
            refine r_join (P := fun k => ∀ (v18 : Int32), J X oI (k v18) m9 120 [(0, rX X 200), (2, .int v8), (3, .int v14), (4, .int v15)] [.int v18]) ?_ ?_
            · intro v18
              refine r_istore (L' := [(5, .int v18), (0, rX X 200), (2, .int v8), (3, .int v14), (4, .int v15)]) (pc := 120) hX dX8_bestOf_120 (by decide) rfl ?_
              refine r_iload (pc := 122) hX 0 dX8_bestOf_122 rfl ?_
              refine r_iload_n (pc := 124) hX 3 dX8_bestOf_124 rfl rfl ?_
              refine r_join (P := fun k => ∀ (v19 : Int32), J X oI (k v19) m9 134 [(0, rX X 200), (2, .int v8), (4, .int v15)] [.int v19]) ?_ ?_
              · intro v19
                refine r_istore_n (L' := [(3, .int v19), (0, rX X 200), (2, .int v8), (4, .int v15)]) (pc := 134) hX dX8_bestOf_134 rfl (by decide) rfl ?_
                refine r_iincN (L' := fun w => [(4, .int w), (3, .int v19), (0, rX X 200), (2, .int v8)]) (pc := 135) hX 3 dX8_bestOf_135 rfl rfl (by decide) (fun _ => rfl) (fun v20 => ?_)
                refine r_goto (tgt := 77) (pc := 138) hX dX8_bestOf_138 (by decide) ?_
                exact r_sub [2, 3, 1, 0] rfl (hs77 v19 v20)
              intro k134_ hk134_
              refine r_icmp_le (tgt := 133) (pc := 125) hX dX8_bestOf_125 (by decide) ?_ ?_
              · skip
                refine r_iload_n (pc := 133) hX 3 dX8_bestOf_133 rfl rfl ?_
                exact r_sub [1, 2, 4] rfl (hk134_ v14)
              · skip
                refine r_iload (pc := 128) hX 0 dX8_bestOf_128 rfl ?_
                refine r_goto (tgt := 134) (pc := 130) hX dX8_bestOf_130 (by decide) ?_
                exact r_sub [1, 2, 4] rfl (hk134_ v18)
            intro k120_ hk120_
            refine r_if_eq (tgt := 119) (pc := 101) hX dX8_bestOf_101 (by decide) ?_ ?_
            · skip
              refine r_iconst (pc := 119) hX dX8_bestOf_119 ic_0 ?_
              exact hk120_ (0 : Int32)
            · skip
              refine r_aload_n (pc := 104) hX 0 dX8_bestOf_104 rfl rfl ?_
              refine r_aload_n (pc := 105) hX 0 dX8_bestOf_105 rfl rfl ?_
              refine r_getR (pc := 106) hX dX8_bestOf_106 fp8_54 k200 rfl g200_28 ?_
              refine r_iload_n (pc := 109) hX 1 dX8_bestOf_109 rfl rfl ?_
              refine r_iald (pc := 110) hX dX8_bestOf_110 k215 (fun v21 => ?_)
              refine r_iload (pc := 111) hX 3 dX8_bestOf_111 rfl ?_
              refine r_cvP (st := []) (pc := 113) hX dX8_bestOf_113 MI_Mo_worthOf MV_Mo_worthOf lkX8_221 k200 (c_Mo_worthOf v21 v15 m9) rfl rfl (Nat.le_of_ble_eq_true rfl) (by decide) (fun v22 => ?_)
              refine r_goto (tgt := 120) (pc := 116) hX dX8_bestOf_116 (by decide) ?_
              exact hk120_ v22
        exact r_sub [2, 3, 1, 0] rfl (hl77 FU (0 : Int32) (0 : Int32))
    exact r_sub [1, 0] rfl (hl68 FU v4 m3)
  intro k51_ hk51_
  have hl7 : ∀ n : Nat, ∀ (v23 : Int32) (m24 : Me), J X oI (fx (lb_Mo_bestOf_7 a0 k51_) (fun _ _ => none) n v23 m24) m24 7 [(0, rX X 200), (1, .int a0), (2, .int v23)] [] := by
    refine fx_ind (fun (f : Int32 → Me → Option (Int32 × Me)) => ∀ (v23 : Int32) (m24 : Me), J X oI (f v23 m24) m24 7 [(0, rX X 200), (1, .int a0), (2, .int v23)] []) (fun _ _ => r_none) ?_
    intro s7 hs7 v23 m24
    unfold lb_Mo_bestOf_7
    refine r_iload_n (pc := 7) hX 2 dX8_bestOf_7 rfl rfl ?_
    refine r_aload_n (pc := 8) hX 0 dX8_bestOf_8 rfl rfl ?_
    refine r_getI (pc := 9) hX dX8_bestOf_9 fp8_88 k200 (by decide) ?_
    refine r_icmp_ge (tgt := 51) (pc := 12) hX dX8_bestOf_12 (by decide) ?_ ?_
    · skip
      exact r_sub [0] rfl (hk51_ m24)
    · skip
      refine r_aload_n (pc := 15) hX 0 dX8_bestOf_15 rfl rfl ?_
      refine r_getR (pc := 16) hX dX8_bestOf_16 fp8_47 k200 rfl g200_26 ?_
      refine r_iload_n (pc := 19) hX 2 dX8_bestOf_19 rfl rfl ?_
      refine r_iald (pc := 20) hX dX8_bestOf_20 k213 (fun v25 => ?_)
      refine r_iload_n (pc := 21) hX 1 dX8_bestOf_21 rfl rfl ?_
      refine r_join (P := fun k => ∀ (m26 : Me), J X oI (k m26) m26 45 [(0, rX X 200), (1, .int a0), (2, .int v23)] []) ?_ ?_
      · intro m26
        refine r_iincN (L' := fun w => [(2, .int w), (0, rX X 200), (1, .int a0)]) (pc := 45) hX 2 dX8_bestOf_45 rfl rfl (by decide) (fun _ => rfl) (fun v27 => ?_)
        refine r_goto (tgt := 7) (pc := 48) hX dX8_bestOf_48 (by decide) ?_
        exact r_sub [1, 2, 0] rfl (hs7 v27 m26)
      intro k45_ hk45_
      refine r_icmp_ne (tgt := 45) (pc := 22) hX dX8_bestOf_22 (by decide) ?_ ?_
      · skip
        exact hk45_ m24
      · skip
        refine r_aload_n (pc := 25) hX 0 dX8_bestOf_25 rfl rfl ?_
        refine r_getR (pc := 26) hX dX8_bestOf_26 fp8_54 k200 rfl g200_28 ?_
        refine r_aload_n (pc := 29) hX 0 dX8_bestOf_29 rfl rfl ?_
        refine r_getI (pc := 30) hX dX8_bestOf_30 fp8_227 k200 (by decide) ?_
        refine r_iload_n (pc := 33) hX 2 dX8_bestOf_33 rfl rfl ?_
        refine r_iast (pc := 34) hX dX8_bestOf_34 k215 (fun m28 => ?_)
        refine r_aload_n (pc := 35) hX 0 dX8_bestOf_35 rfl rfl ?_
        refine r_dup (pc := 36) hX dX8_bestOf_36 rfl ?_
        refine r_getI (pc := 37) hX dX8_bestOf_37 fp8_227 k200 (by decide) ?_
        refine r_iconst (pc := 40) hX dX8_bestOf_40 ic_1 ?_
        refine r_iadd (pc := 41) hX dX8_bestOf_41 ?_
        refine r_putI (pc := 42) hX dX8_bestOf_42 fp8_227 k200 (fun m29 => ?_)
        exact hk45_ m29
  exact r_sub [1, 2, 0] rfl (hl7 FU (0 : Int32) m1)
def lb_Mo_best_85 (k111_ : Me → Option (Int32 × Me)) (s85 : Int32 → Me → Option (Int32 × Me)) (v10 : Int32) (m11 : Me) : Option (Int32 × Me) := if (m11.1 200 1) ≤ v10 then (k111_ m11) else rd (ln 219) v10 (m11.1 219) (fun v12 => wi m11 207 (ln 207) v10 v12 (fun m13 => bd (v10 + 1) (fun v14 => (s85 v14 m13))))
def lb_Mo_best_42 (k73_ : Me → Option (Int32 × Me)) (s42 : Int32 → Me → Option (Int32 × Me)) (v21 : Int32) (m22 : Me) : Option (Int32 × Me) := if (m22.1 200 29) ≤ v21 then (k73_ m22) else rd (ln 215) v21 (m22.1 215) (fun v23 => rd (ln 217) v21 (m22.1 217) (fun v24 => wi m22 219 (ln 219) v23 v24 (fun m25 => bd (v21 + 1) (fun v26 => (s42 v26 m25)))))
def lb_Mo_best_24 (v4 : Int32) (k79_ : Me → Option (Int32 × Me)) (s24 : Int32 → Me → Option (Int32 × Me)) (v15 : Int32) (m16 : Me) : Option (Int32 × Me) := if v4 ≤ v15 then (k79_ m16) else cI (f_Mo_bestOf v15 m16) (fun v17 m18 => if v17 = 0 then some ((-4 : Int32), m18) else bd (fun (m19 : Me) => bd (v15 + 1) (fun v20 => (s24 v20 m19))) (fun k73_ => ((fx (lb_Mo_best_42 k73_) (fun _ _ => none) FU) (0 : Int32) m18)))
def f_Mo_best  (m : Me) : Option (Int32 × Me) := bd (si m 200 0 (0 : Int32)) (fun m1 => cI (f_Mo_most m1) (fun v2 m3 => if v2 ≤ (7 : Int32) then cI (f_Mo_findParts m3) (fun v4 m5 => bd (fun (m6 : Me) => cP (f_Mo_keep m6) (fun m7 => bd (fun (m8 : Me) => cP (f_Mo_worthInHand m8) (fun v9 => some (v9, m8))) (fun k111_ => ((fx (lb_Mo_best_85 k111_) (fun _ _ => none) FU) (0 : Int32) m7)))) (fun k79_ => ((fx (lb_Mo_best_24 v4 k79_) (fun _ _ => none) FU) (0 : Int32) m5))) else some ((-6 : Int32), m3)))
set_option maxHeartbeats 4000000 in
set_option maxRecDepth 100000 in
theorem c_Mo_best   (m : Me) (r : Int32) (m' : Me) (h : f_Mo_best  m = some (r, m')) : Ct yX8_best cX8_best 4 (some .int) 38 (fun ad => [.ref (ad 200)]) m (fun ad => (some (.int r), m')) := by
  refine mk_ct (F := f_Mo_best  m) (fun _ => oI) (r, m') h (fun _ => rfl) (by decide) (fun _ => Nat.le_of_ble_eq_true rfl) ?_
  intro X hX hE
  show J X oI (f_Mo_best  m) m 0 [(0, rX X 200)] []
  unfold f_Mo_best
  refine r_aload_n (pc := 0) hX 0 dX8_best_0 rfl rfl ?_
  refine r_iconst (pc := 1) hX dX8_best_1 ic_0 ?_
  refine r_putI (pc := 2) hX dX8_best_2 fp8_78 k200 (fun m1 => ?_)
  refine r_aload_n (pc := 5) hX 0 dX8_best_5 rfl rfl ?_
  refine r_cvI (st := []) (pc := 6) hX dX8_best_6 MI_Mo_most MV_Mo_most lkX8_240 k200 (c_Mo_most m1) rfl rfl (Nat.le_of_ble_eq_true rfl) (by decide) (fun v2 m3 => ?_)
  refine r_bipush (pc := 9) hX dX8_best_9 bp_7 ?_
  refine r_icmp_le (tgt := 17) (pc := 11) hX dX8_best_11 (by decide) ?_ ?_
  · skip
    refine r_aload_n (pc := 17) hX 0 dX8_best_17 rfl rfl ?_
    refine r_cvI (st := []) (pc := 18) hX dX8_best_18 MI_Mo_findParts MV_Mo_findParts lkX8_214 k200 (c_Mo_findParts m3) rfl rfl (Nat.le_of_ble_eq_true rfl) (by decide) (fun v4 m5 => ?_)
    refine r_istore_n (L' := [(1, .int v4), (0, rX X 200)]) (pc := 21) hX dX8_best_21 rfl (by decide) rfl ?_
    refine r_iconst (pc := 22) hX dX8_best_22 ic_0 ?_
    refine r_istore_n (L' := [(2, .int (0 : Int32)), (1, .int v4), (0, rX X 200)]) (pc := 23) hX dX8_best_23 rfl (by decide) rfl ?_
    refine r_join (P := fun k => ∀ (m6 : Me), J X oI (k m6) m6 79 [(0, rX X 200)] []) ?_ ?_
    · intro m6
      refine r_aload_n (pc := 79) hX 0 dX8_best_79 rfl rfl ?_
      refine r_cvV (st := []) (pc := 80) hX dX8_best_80 MI_Mo_keep MV_Mo_keep lkX8_112 k200 (c_Mo_keep m6) rfl rfl (Nat.le_of_ble_eq_true rfl) (by decide) (fun m7 => ?_)
      refine r_iconst (pc := 83) hX dX8_best_83 ic_0 ?_
      refine r_istore_n (L' := [(2, .int (0 : Int32)), (0, rX X 200)]) (pc := 84) hX dX8_best_84 rfl (by decide) rfl ?_
      refine r_join (P := fun k => ∀ (m8 : Me), J X oI (k m8) m8 111 [(0, rX X 200)] []) ?_ ?_
      · intro m8
        refine r_aload_n (pc := 111) hX 0 dX8_best_111 rfl rfl ?_
        refine r_cvP (st := []) (pc := 112) hX dX8_best_112 MI_Mo_worthInHand MV_Mo_worthInHand lkX8_224 k200 (c_Mo_worthInHand m8) rfl rfl (Nat.le_of_ble_eq_true rfl) (by decide) (fun v9 => ?_)
        exact r_iretI (pc := 115) hX hE dX8_best_115
      intro k111_ hk111_
      have hl85 : ∀ n : Nat, ∀ (v10 : Int32) (m11 : Me), J X oI (fx (lb_Mo_best_85 k111_) (fun _ _ => none) n v10 m11) m11 85 [(0, rX X 200), (2, .int v10)] [] := by
        refine fx_ind (fun (f : Int32 → Me → Option (Int32 × Me)) => ∀ (v10 : Int32) (m11 : Me), J X oI (f v10 m11) m11 85 [(0, rX X 200), (2, .int v10)] []) (fun _ _ => r_none) ?_
        intro s85 hs85 v10 m11
        unfold lb_Mo_best_85
        refine r_iload_n (pc := 85) hX 1 dX8_best_85 rfl rfl ?_
        refine r_aload_n (pc := 86) hX 0 dX8_best_86 rfl rfl ?_
        refine r_getI (pc := 87) hX dX8_best_87 fp8_88 k200 (by decide) ?_
        refine r_icmp_ge (tgt := 111) (pc := 90) hX dX8_best_90 (by decide) ?_ ?_
        · skip
          exact r_sub [0] rfl (hk111_ m11)
        · skip
          refine r_aload_n (pc := 93) hX 0 dX8_best_93 rfl rfl ?_
          refine r_getR (pc := 94) hX dX8_best_94 fp8_28 k200 rfl g200_9 ?_
          refine r_iload_n (pc := 97) hX 1 dX8_best_97 rfl rfl ?_
          refine r_aload_n (pc := 98) hX 0 dX8_best_98 rfl rfl ?_
          refine r_getR (pc := 99) hX dX8_best_99 fp8_66 k200 rfl g200_34 ?_
          refine r_iload_n (pc := 102) hX 1 dX8_best_102 rfl rfl ?_
          refine r_iald (pc := 103) hX dX8_best_103 k219 (fun v12 => ?_)
          refine r_iast (pc := 104) hX dX8_best_104 k207 (fun m13 => ?_)
          refine r_iincN (L' := fun w => [(2, .int w), (0, rX X 200)]) (pc := 105) hX 1 dX8_best_105 rfl rfl (by decide) (fun _ => rfl) (fun v14 => ?_)
          refine r_goto (tgt := 85) (pc := 108) hX dX8_best_108 (by decide) ?_
          exact r_sub [1, 0] rfl (hs85 v14 m13)
      exact r_sub [1, 0] rfl (hl85 FU (0 : Int32) m7)
    intro k79_ hk79_
    have hl24 : ∀ n : Nat, ∀ (v15 : Int32) (m16 : Me), J X oI (fx (lb_Mo_best_24 v4 k79_) (fun _ _ => none) n v15 m16) m16 24 [(0, rX X 200), (1, .int v4), (2, .int v15)] [] := by
      refine fx_ind (fun (f : Int32 → Me → Option (Int32 × Me)) => ∀ (v15 : Int32) (m16 : Me), J X oI (f v15 m16) m16 24 [(0, rX X 200), (1, .int v4), (2, .int v15)] []) (fun _ _ => r_none) ?_
      intro s24 hs24 v15 m16
      unfold lb_Mo_best_24
      refine r_iload_n (pc := 24) hX 2 dX8_best_24 rfl rfl ?_
      refine r_iload_n (pc := 25) hX 1 dX8_best_25 rfl rfl ?_
      refine r_icmp_ge (tgt := 79) (pc := 26) hX dX8_best_26 (by decide) ?_ ?_
      · skip
        exact r_sub [0] rfl (hk79_ m16)
      · skip
        refine r_aload_n (pc := 29) hX 0 dX8_best_29 rfl rfl ?_
        refine r_iload_n (pc := 30) hX 2 dX8_best_30 rfl rfl ?_
        refine r_cvI (st := []) (pc := 31) hX dX8_best_31 MI_Mo_bestOf MV_Mo_bestOf lkX8_243 k200 (c_Mo_bestOf v15 m16) rfl rfl (Nat.le_of_ble_eq_true rfl) (by decide) (fun v17 m18 => ?_)
        refine r_if_ne (tgt := 40) (pc := 34) hX dX8_best_34 (by decide) ?_ ?_
        · skip
          refine r_iconst (pc := 40) hX dX8_best_40 ic_0 ?_
          refine r_istore_n (L' := [(3, .int (0 : Int32)), (0, rX X 200), (1, .int v4), (2, .int v15)]) (pc := 41) hX dX8_best_41 rfl (by decide) rfl ?_
          refine r_join (P := fun k => ∀ (m19 : Me), J X oI (k m19) m19 73 [(0, rX X 200), (1, .int v4), (2, .int v15)] []) ?_ ?_
          · intro m19
            refine r_iincN (L' := fun w => [(2, .int w), (0, rX X 200), (1, .int v4)]) (pc := 73) hX 2 dX8_best_73 rfl rfl (by decide) (fun _ => rfl) (fun v20 => ?_)
            refine r_goto (tgt := 24) (pc := 76) hX dX8_best_76 (by decide) ?_
            exact r_sub [1, 2, 0] rfl (hs24 v20 m19)
          intro k73_ hk73_
          have hl42 : ∀ n : Nat, ∀ (v21 : Int32) (m22 : Me), J X oI (fx (lb_Mo_best_42 k73_) (fun _ _ => none) n v21 m22) m22 42 [(0, rX X 200), (1, .int v4), (2, .int v15), (3, .int v21)] [] := by
            refine fx_ind (fun (f : Int32 → Me → Option (Int32 × Me)) => ∀ (v21 : Int32) (m22 : Me), J X oI (f v21 m22) m22 42 [(0, rX X 200), (1, .int v4), (2, .int v15), (3, .int v21)] []) (fun _ _ => r_none) ?_
            intro s42 hs42 v21 m22
            unfold lb_Mo_best_42
            refine r_iload_n (pc := 42) hX 3 dX8_best_42 rfl rfl ?_
            refine r_aload_n (pc := 43) hX 0 dX8_best_43 rfl rfl ?_
            refine r_getI (pc := 44) hX dX8_best_44 fp8_227 k200 (by decide) ?_
            refine r_icmp_ge (tgt := 73) (pc := 47) hX dX8_best_47 (by decide) ?_ ?_
            · skip
              exact r_sub [0, 1, 2] rfl (hk73_ m22)
            · skip
              refine r_aload_n (pc := 50) hX 0 dX8_best_50 rfl rfl ?_
              refine r_getR (pc := 51) hX dX8_best_51 fp8_66 k200 rfl g200_34 ?_
              refine r_aload_n (pc := 54) hX 0 dX8_best_54 rfl rfl ?_
              refine r_getR (pc := 55) hX dX8_best_55 fp8_54 k200 rfl g200_28 ?_
              refine r_iload_n (pc := 58) hX 3 dX8_best_58 rfl rfl ?_
              refine r_iald (pc := 59) hX dX8_best_59 k215 (fun v23 => ?_)
              refine r_aload_n (pc := 60) hX 0 dX8_best_60 rfl rfl ?_
              refine r_getR (pc := 61) hX dX8_best_61 fp8_60 k200 rfl g200_31 ?_
              refine r_iload_n (pc := 64) hX 3 dX8_best_64 rfl rfl ?_
              refine r_iald (pc := 65) hX dX8_best_65 k217 (fun v24 => ?_)
              refine r_iast (pc := 66) hX dX8_best_66 k219 (fun m25 => ?_)
              refine r_iincN (L' := fun w => [(3, .int w), (0, rX X 200), (1, .int v4), (2, .int v15)]) (pc := 67) hX 3 dX8_best_67 rfl rfl (by decide) (fun _ => rfl) (fun v26 => ?_)
              refine r_goto (tgt := 42) (pc := 70) hX dX8_best_70 (by decide) ?_
              exact r_sub [1, 2, 3, 0] rfl (hs42 v26 m25)
          exact r_sub [1, 2, 3, 0] rfl (hl42 FU (0 : Int32) m18)
        · skip
          refine r_bipush (pc := 37) hX dX8_best_37 bp_m4 ?_
          exact r_iretI (pc := 39) hX hE dX8_best_39
    exact r_sub [2, 1, 0] rfl (hl24 FU (0 : Int32) m5)
  · skip
    refine r_bipush (pc := 14) hX dX8_best_14 bp_m6 ?_
    exact r_iretI (pc := 16) hX hE dX8_best_16
def f_Mo_isAhead (a0 : Int32) (a1 : Int32) (m : Me) : Option Int32 := rd (ln 201) a0 (m.1 201) (fun v1 => bd (fun (v2 : Int32) => rd (ln 201) a1 (m.1 201) (fun v3 => bd (fun (v4 : Int32) => if v2 = v4 then rd (ln 206) a0 (m.1 206) (fun v5 => rd (ln 206) a1 (m.1 206) (fun v6 => if v5 = v6 then if a1 ≤ a0 then some (0 : Int32) else some (1 : Int32) else rd (ln 206) a0 (m.1 206) (fun v7 => rd (ln 206) a1 (m.1 206) (fun v8 => if v7 ≤ v8 then some (0 : Int32) else some (1 : Int32))))) else zg v2 v2) (fun k32_ => if v3 = (3 : Int32) then (k32_ (1 : Int32)) else (k32_ (0 : Int32))))) (fun k15_ => if v1 = (3 : Int32) then (k15_ (1 : Int32)) else (k15_ (0 : Int32))))
set_option maxHeartbeats 4000000 in
set_option maxRecDepth 100000 in
theorem c_Mo_isAhead (a0 : Int32) (a1 : Int32)  (m : Me) (r : Int32) (h : f_Mo_isAhead a0 a1 m = some r) : Ct yX8_isAhead cX8_isAhead 4 (some .boolean) 0 (fun ad => [.ref (ad 200), .int a0, .int a1]) m (fun ad => (some (.int r), m)) := by
  refine mk_ct (F := f_Mo_isAhead a0 a1 m) (fun _ => oP m) r h (fun _ => rfl) (by decide) (fun _ => Nat.le_of_ble_eq_true rfl) ?_
  intro X hX hE
  show J X (oP m) (f_Mo_isAhead a0 a1 m) m 0 [(0, rX X 200), (1, .int a0), (2, .int a1)] []
  unfold f_Mo_isAhead
  refine r_aload_n (pc := 0) hX 0 dX8_isAhead_0 rfl rfl ?_
  refine r_getR (pc := 1) hX dX8_isAhead_1 fp8_7 k200 rfl g200_3 ?_
  refine r_iload_n (pc := 4) hX 1 dX8_isAhead_4 rfl rfl ?_
  refine r_iald (pc := 5) hX dX8_isAhead_5 k201 (fun v1 => ?_)
  refine r_iconst (pc := 6) hX dX8_isAhead_6 ic_3 ?_
  refine r_join (P := fun k => ∀ (v2 : Int32), J X (oP m) (k v2) m 15 [(0, rX X 200), (1, .int a0), (2, .int a1)] [.int v2]) ?_ ?_
  · intro v2
    refine r_istore_n (L' := [(3, .int v2), (0, rX X 200), (1, .int a0), (2, .int a1)]) (pc := 15) hX dX8_isAhead_15 rfl (by decide) rfl ?_
    refine r_iload_n (pc := 16) hX 0 dX8_isAhead_16 rfl rfl ?_
    refine r_aload_n (pc := 17) hX 1 dX8_isAhead_17 rfl rfl ?_
    refine r_getR (pc := 18) hX dX8_isAhead_18 fp8_7 k200 rfl g200_3 ?_
    refine r_iload_n (pc := 21) hX 3 dX8_isAhead_21 rfl rfl ?_
    refine r_iald (pc := 22) hX dX8_isAhead_22 k201 (fun v3 => ?_)
    refine r_iconst (pc := 23) hX dX8_isAhead_23 ic_3 ?_
    refine r_join (P := fun k => ∀ (v4 : Int32), J X (oP m) (k v4) m 32 [(0, rX X 200), (1, .int a0), (2, .int a1), (3, .int v2)] [.int v4, .int v2]) ?_ ?_
    · intro v4
      refine r_icmp_eq (tgt := 37) (pc := 32) hX dX8_isAhead_32 (by decide) ?_ ?_
      · skip
        refine r_aload_n (pc := 37) hX 0 dX8_isAhead_37 rfl rfl ?_
        refine r_getR (pc := 38) hX dX8_isAhead_38 fp8_25 k200 rfl g200_8 ?_
        refine r_iload_n (pc := 41) hX 1 dX8_isAhead_41 rfl rfl ?_
        refine r_iald (pc := 42) hX dX8_isAhead_42 k206 (fun v5 => ?_)
        refine r_aload_n (pc := 43) hX 0 dX8_isAhead_43 rfl rfl ?_
        refine r_getR (pc := 44) hX dX8_isAhead_44 fp8_25 k200 rfl g200_8 ?_
        refine r_iload_n (pc := 47) hX 2 dX8_isAhead_47 rfl rfl ?_
        refine r_iald (pc := 48) hX dX8_isAhead_48 k206 (fun v6 => ?_)
        refine r_icmp_eq (tgt := 75) (pc := 49) hX dX8_isAhead_49 (by decide) ?_ ?_
        · skip
          refine r_iload_n (pc := 75) hX 1 dX8_isAhead_75 rfl rfl ?_
          refine r_iload_n (pc := 76) hX 2 dX8_isAhead_76 rfl rfl ?_
          refine r_icmp_ge (tgt := 84) (pc := 77) hX dX8_isAhead_77 (by decide) ?_ ?_
          · skip
            refine r_iconst (pc := 84) hX dX8_isAhead_84 ic_0 ?_
            exact r_zretPk (pc := 85) hX hE dX8_isAhead_85 (by decide)
          · skip
            refine r_iconst (pc := 80) hX dX8_isAhead_80 ic_1 ?_
            refine r_goto (tgt := 85) (pc := 81) hX dX8_isAhead_81 (by decide) ?_
            exact r_zretPk (pc := 85) hX hE dX8_isAhead_85 (by decide)
        · skip
          refine r_aload_n (pc := 52) hX 0 dX8_isAhead_52 rfl rfl ?_
          refine r_getR (pc := 53) hX dX8_isAhead_53 fp8_25 k200 rfl g200_8 ?_
          refine r_iload_n (pc := 56) hX 1 dX8_isAhead_56 rfl rfl ?_
          refine r_iald (pc := 57) hX dX8_isAhead_57 k206 (fun v7 => ?_)
          refine r_aload_n (pc := 58) hX 0 dX8_isAhead_58 rfl rfl ?_
          refine r_getR (pc := 59) hX dX8_isAhead_59 fp8_25 k200 rfl g200_8 ?_
          refine r_iload_n (pc := 62) hX 2 dX8_isAhead_62 rfl rfl ?_
          refine r_iald (pc := 63) hX dX8_isAhead_63 k206 (fun v8 => ?_)
          refine r_icmp_le (tgt := 71) (pc := 64) hX dX8_isAhead_64 (by decide) ?_ ?_
          · skip
            refine r_iconst (pc := 71) hX dX8_isAhead_71 ic_0 ?_
            refine r_goto (tgt := 85) (pc := 72) hX dX8_isAhead_72 (by decide) ?_
            exact r_zretPk (pc := 85) hX hE dX8_isAhead_85 (by decide)
          · skip
            refine r_iconst (pc := 67) hX dX8_isAhead_67 ic_1 ?_
            refine r_goto (tgt := 85) (pc := 68) hX dX8_isAhead_68 (by decide) ?_
            exact r_zretPk (pc := 85) hX hE dX8_isAhead_85 (by decide)
      · skip
        refine r_iload_n (pc := 35) hX 3 dX8_isAhead_35 rfl rfl ?_
        exact r_zretP (pc := 36) hX hE dX8_isAhead_36
    intro k32_ hk32_
    refine r_icmp_ne (tgt := 31) (pc := 24) hX dX8_isAhead_24 (by decide) ?_ ?_
    · skip
      refine r_iconst (pc := 31) hX dX8_isAhead_31 ic_0 ?_
      exact r_sub [1, 2, 3, 0] rfl (hk32_ (0 : Int32))
    · skip
      refine r_iconst (pc := 27) hX dX8_isAhead_27 ic_1 ?_
      refine r_goto (tgt := 32) (pc := 28) hX dX8_isAhead_28 (by decide) ?_
      exact r_sub [1, 2, 3, 0] rfl (hk32_ (1 : Int32))
  intro k15_ hk15_
  refine r_icmp_ne (tgt := 14) (pc := 7) hX dX8_isAhead_7 (by decide) ?_ ?_
  · skip
    refine r_iconst (pc := 14) hX dX8_isAhead_14 ic_0 ?_
    exact hk15_ (0 : Int32)
  · skip
    refine r_iconst (pc := 10) hX dX8_isAhead_10 ic_1 ?_
    refine r_goto (tgt := 15) (pc := 11) hX dX8_isAhead_11 (by decide) ?_
    exact hk15_ (1 : Int32)
def lb_Mo_findOrder_12 (v1 : Int32) (k52_ : Int32 → Me → Option Me) (s12 : Int32 → Me → Option Me) (v7 : Int32) (m8 : Me) : Option Me := if v7 ≤ 0 then (k52_ v7 m8) else rd (ln 220) (v7 - (1 : Int32)) (m8.1 220) (fun v9 => cP (f_Mo_isAhead v1 v9 m8) (fun v10 => if v10 = 0 then (k52_ v7 m8) else rd (ln 220) (v7 - (1 : Int32)) (m8.1 220) (fun v11 => wi m8 220 (ln 220) v7 v11 (fun m12 => bd (v7 + Int32.ofInt (-1)) (fun v13 => (s12 v13 m12))))))
def lb_Mo_findOrder_2  (s2 : Int32 → Me → Option Me) (v1 : Int32) (m2 : Me) : Option Me := if (m2.1 200 1) ≤ v1 then some m2 else bd (fun (v3 : Int32) (m4 : Me) => wi m4 220 (ln 220) v3 v1 (fun m5 => bd (v1 + 1) (fun v6 => (s2 v6 m5)))) (fun k52_ => ((fx (lb_Mo_findOrder_12 v1 k52_) (fun _ _ => none) FU) v1 m2))
def f_Mo_findOrder  (m : Me) : Option Me := ((fx (lb_Mo_findOrder_2) (fun _ _ => none) FU) (0 : Int32) m)
set_option maxHeartbeats 4000000 in
set_option maxRecDepth 100000 in
theorem c_Mo_findOrder   (m : Me) (r : Me) (h : f_Mo_findOrder  m = some r) : Ct yX8_findOrder cX8_findOrder 3 none 1 (fun ad => [.ref (ad 200)]) m (fun ad => (none, r)) := by
  refine mk_ct (F := f_Mo_findOrder  m) (fun _ => oV) r h (fun _ => rfl) (by decide) (fun _ => Nat.le_of_ble_eq_true rfl) ?_
  intro X hX hE
  show J X oV (f_Mo_findOrder  m) m 0 [(0, rX X 200)] []
  unfold f_Mo_findOrder
  refine r_iconst (pc := 0) hX dX8_findOrder_0 ic_0 ?_
  refine r_istore_n (L' := [(1, .int (0 : Int32)), (0, rX X 200)]) (pc := 1) hX dX8_findOrder_1 rfl (by decide) rfl ?_
  have hl2 : ∀ n : Nat, ∀ (v1 : Int32) (m2 : Me), J X oV (fx (lb_Mo_findOrder_2) (fun _ _ => none) n v1 m2) m2 2 [(0, rX X 200), (1, .int v1)] [] := by
    refine fx_ind (fun (f : Int32 → Me → Option Me) => ∀ (v1 : Int32) (m2 : Me), J X oV (f v1 m2) m2 2 [(0, rX X 200), (1, .int v1)] []) (fun _ _ => r_none) ?_
    intro s2 hs2 v1 m2
    unfold lb_Mo_findOrder_2
    refine r_iload_n (pc := 2) hX 1 dX8_findOrder_2 rfl rfl ?_
    refine r_aload_n (pc := 3) hX 0 dX8_findOrder_3 rfl rfl ?_
    refine r_getI (pc := 4) hX dX8_findOrder_4 fp8_88 k200 (by decide) ?_
    refine r_icmp_ge (tgt := 65) (pc := 7) hX dX8_findOrder_7 (by decide) ?_ ?_
    · skip
      exact r_vret (pc := 65) hX hE dX8_findOrder_65
    · skip
      refine r_iload_n (pc := 10) hX 1 dX8_findOrder_10 rfl rfl ?_
      refine r_istore_n (L' := [(2, .int v1), (0, rX X 200), (1, .int v1)]) (pc := 11) hX dX8_findOrder_11 rfl (by decide) rfl ?_
      refine r_join (P := fun k => ∀ (v3 : Int32) (m4 : Me), J X oV (k v3 m4) m4 52 [(0, rX X 200), (1, .int v1), (2, .int v3)] []) ?_ ?_
      · intro v3 m4
        refine r_aload_n (pc := 52) hX 0 dX8_findOrder_52 rfl rfl ?_
        refine r_getR (pc := 53) hX dX8_findOrder_53 fp8_69 k200 rfl g200_35 ?_
        refine r_iload_n (pc := 56) hX 2 dX8_findOrder_56 rfl rfl ?_
        refine r_iload_n (pc := 57) hX 1 dX8_findOrder_57 rfl rfl ?_
        refine r_iast (pc := 58) hX dX8_findOrder_58 k220 (fun m5 => ?_)
        refine r_iincN (L' := fun w => [(1, .int w), (0, rX X 200), (2, .int v3)]) (pc := 59) hX 1 dX8_findOrder_59 rfl rfl (by decide) (fun _ => rfl) (fun v6 => ?_)
        refine r_goto (tgt := 2) (pc := 62) hX dX8_findOrder_62 (by decide) ?_
        exact r_sub [1, 0] rfl (hs2 v6 m5)
      intro k52_ hk52_
      have hl12 : ∀ n : Nat, ∀ (v7 : Int32) (m8 : Me), J X oV (fx (lb_Mo_findOrder_12 v1 k52_) (fun _ _ => none) n v7 m8) m8 12 [(0, rX X 200), (1, .int v1), (2, .int v7)] [] := by
        refine fx_ind (fun (f : Int32 → Me → Option Me) => ∀ (v7 : Int32) (m8 : Me), J X oV (f v7 m8) m8 12 [(0, rX X 200), (1, .int v1), (2, .int v7)] []) (fun _ _ => r_none) ?_
        intro s12 hs12 v7 m8
        unfold lb_Mo_findOrder_12
        refine r_iload_n (pc := 12) hX 2 dX8_findOrder_12 rfl rfl ?_
        refine r_if_le (tgt := 52) (pc := 13) hX dX8_findOrder_13 (by decide) ?_ ?_
        · skip
          exact hk52_ v7 m8
        · skip
          refine r_aload_n (pc := 16) hX 0 dX8_findOrder_16 rfl rfl ?_
          refine r_iload_n (pc := 17) hX 1 dX8_findOrder_17 rfl rfl ?_
          refine r_aload_n (pc := 18) hX 0 dX8_findOrder_18 rfl rfl ?_
          refine r_getR (pc := 19) hX dX8_findOrder_19 fp8_69 k200 rfl g200_35 ?_
          refine r_iload_n (pc := 22) hX 2 dX8_findOrder_22 rfl rfl ?_
          refine r_iconst (pc := 23) hX dX8_findOrder_23 ic_1 ?_
          refine r_isub (pc := 24) hX dX8_findOrder_24 ?_
          refine r_iald (pc := 25) hX dX8_findOrder_25 k220 (fun v9 => ?_)
          refine r_cvP (st := []) (pc := 26) hX dX8_findOrder_26 MI_Mo_isAhead MV_Mo_isAhead lkX8_246 k200 (c_Mo_isAhead v1 v9 m8) rfl rfl (Nat.le_of_ble_eq_true rfl) (by decide) (fun v10 => ?_)
          refine r_if_eq (tgt := 52) (pc := 29) hX dX8_findOrder_29 (by decide) ?_ ?_
          · skip
            exact hk52_ v7 m8
          · skip
            refine r_aload_n (pc := 32) hX 0 dX8_findOrder_32 rfl rfl ?_
            refine r_getR (pc := 33) hX dX8_findOrder_33 fp8_69 k200 rfl g200_35 ?_
            refine r_iload_n (pc := 36) hX 2 dX8_findOrder_36 rfl rfl ?_
            refine r_aload_n (pc := 37) hX 0 dX8_findOrder_37 rfl rfl ?_
            refine r_getR (pc := 38) hX dX8_findOrder_38 fp8_69 k200 rfl g200_35 ?_
            refine r_iload_n (pc := 41) hX 2 dX8_findOrder_41 rfl rfl ?_
            refine r_iconst (pc := 42) hX dX8_findOrder_42 ic_1 ?_
            refine r_isub (pc := 43) hX dX8_findOrder_43 ?_
            refine r_iald (pc := 44) hX dX8_findOrder_44 k220 (fun v11 => ?_)
            refine r_iast (pc := 45) hX dX8_findOrder_45 k220 (fun m12 => ?_)
            refine r_iincN (L' := fun w => [(2, .int w), (0, rX X 200), (1, .int v1)]) (pc := 46) hX 2 dX8_findOrder_46 rfl rfl (by decide) (fun _ => rfl) (fun v13 => ?_)
            refine r_goto (tgt := 12) (pc := 49) hX dX8_findOrder_49 (by decide) ?_
            exact r_sub [1, 2, 0] rfl (hs12 v13 m12)
      exact r_sub [1, 2, 0] rfl (hl12 FU v1 m2)
  exact r_sub [1, 0] rfl (hl2 FU (0 : Int32) m)
def lb_Mo_quick_63 (v8 : Int32) (k146_ : Int32 → Me → Option (Int32 × Me)) (s63 : Int32 → Int32 → Me → Option (Int32 × Me)) (v15 : Int32) (v16 : Int32) (m17 : Me) : Option (Int32 × Me) := cP (f_Mo_ways v8 m17) (fun v18 => if v18 ≤ v16 then (k146_ v15 m17) else bd (fun (v19 : Int32) => bd (fun (v20 : Int32) (m21 : Me) => bd (v16 + 1) (fun v22 => (s63 v20 v22 m21))) (fun k138_ => bd (fun (m23 : Me) => (k138_ v15 m23)) (fun k136_ => if v19 = 0 then (k136_ m17) else cI (f_Mo_isOpen v8 v16 (0 : Int32) m17) (fun v24 m25 => if v24 = 0 then (k136_ m25) else cI (f_Mo_clashInHand v8 v16 m25) (fun v26 m27 => if v26 = (-1 : Int32) then (k138_ v16 m27) else (k136_ m27)))))) (fun k102_ => bd ((k102_ (1 : Int32))) (fun k97_ => if v15 = (16 : Int32) then (k97_) else cP (f_Mo_priceOf v8 v16 m17) (fun v28 => cP (f_Mo_priceOf v8 v15 m17) (fun v29 => if v29 ≤ v28 then (k102_ (0 : Int32)) else (k97_))))))
def lb_Mo_quick_41  (s41 : Int32 → Int32 → Me → Option (Int32 × Me)) (v5 : Int32) (v6 : Int32) (m7 : Me) : Option (Int32 × Me) := if (m7.1 200 1) ≤ v6 then some (v5, m7) else rd (ln 220) v6 (m7.1 220) (fun v8 => bd (fun (v9 : Int32) (m10 : Me) => wi m10 207 (ln 207) v8 v9 (fun m11 => bd (fun (v12 : Int32) => bd ((v5 + v12)) (fun v13 => bd (v6 + 1) (fun v14 => (s41 v13 v14 m11)))) (fun k167_ => if v9 = (16 : Int32) then (k167_ (1 : Int32)) else (k167_ (0 : Int32))))) (fun k146_ => ((fx (lb_Mo_quick_63 v8 k146_) (fun _ _ _ => none) FU) (16 : Int32) (0 : Int32) m7)))
def lb_Mo_quick_17 (k39_ : Me → Option (Int32 × Me)) (s17 : Int32 → Me → Option (Int32 × Me)) (v30 : Int32) (m31 : Me) : Option (Int32 × Me) := if (m31.1 200 1) ≤ v30 then (k39_ m31) else wi m31 207 (ln 207) v30 (16 : Int32) (fun m32 => bd (v30 + 1) (fun v33 => (s17 v33 m32)))
def f_Mo_quick  (m : Me) : Option (Int32 × Me) := bd (si m 200 0 (0 : Int32)) (fun m1 => cP (f_Mo_keep m1) (fun m2 => cP (f_Mo_findOrder m2) (fun m3 => bd (fun (m4 : Me) => ((fx (lb_Mo_quick_41) (fun _ _ _ => none) FU) (0 : Int32) (0 : Int32) m4)) (fun k39_ => ((fx (lb_Mo_quick_17 k39_) (fun _ _ => none) FU) (0 : Int32) m3)))))
set_option maxHeartbeats 4000000 in
set_option maxRecDepth 100000 in
theorem c_Mo_quick   (m : Me) (r : Int32) (m' : Me) (h : f_Mo_quick  m = some (r, m')) : Ct yX8_quick cX8_quick 7 (some .int) 5 (fun ad => [.ref (ad 200)]) m (fun ad => (some (.int r), m')) := by
  refine mk_ct (F := f_Mo_quick  m) (fun _ => oI) (r, m') h (fun _ => rfl) (by decide) (fun _ => Nat.le_of_ble_eq_true rfl) ?_
  intro X hX hE
  show J X oI (f_Mo_quick  m) m 0 [(0, rX X 200)] []
  unfold f_Mo_quick
  refine r_aload_n (pc := 0) hX 0 dX8_quick_0 rfl rfl ?_
  refine r_iconst (pc := 1) hX dX8_quick_1 ic_0 ?_
  refine r_putI (pc := 2) hX dX8_quick_2 fp8_78 k200 (fun m1 => ?_)
  refine r_aload_n (pc := 5) hX 0 dX8_quick_5 rfl rfl ?_
  refine r_cvV (st := []) (pc := 6) hX dX8_quick_6 MI_Mo_keep MV_Mo_keep lkX8_112 k200 (c_Mo_keep m1) rfl rfl (Nat.le_of_ble_eq_true rfl) (by decide) (fun m2 => ?_)
  refine r_aload_n (pc := 9) hX 0 dX8_quick_9 rfl rfl ?_
  refine r_cvV (st := []) (pc := 10) hX dX8_quick_10 MI_Mo_findOrder MV_Mo_findOrder lkX8_249 k200 (c_Mo_findOrder m2) rfl rfl (Nat.le_of_ble_eq_true rfl) (by decide) (fun m3 => ?_)
  refine r_iconst (pc := 13) hX dX8_quick_13 ic_0 ?_
  refine r_istore_n (L' := [(1, .int (0 : Int32)), (0, rX X 200)]) (pc := 14) hX dX8_quick_14 rfl (by decide) rfl ?_
  refine r_iconst (pc := 15) hX dX8_quick_15 ic_0 ?_
  refine r_istore_n (L' := [(2, .int (0 : Int32)), (1, .int (0 : Int32)), (0, rX X 200)]) (pc := 16) hX dX8_quick_16 rfl (by decide) rfl ?_
  refine r_join (P := fun k => ∀ (m4 : Me), J X oI (k m4) m4 39 [(0, rX X 200), (1, .int (0 : Int32))] []) ?_ ?_
  · intro m4
    refine r_iconst (pc := 39) hX dX8_quick_39 ic_0 ?_
    refine r_istore_n (L' := [(2, .int (0 : Int32)), (0, rX X 200), (1, .int (0 : Int32))]) (pc := 40) hX dX8_quick_40 rfl (by decide) rfl ?_
    have hl41 : ∀ n : Nat, ∀ (v5 : Int32) (v6 : Int32) (m7 : Me), J X oI (fx (lb_Mo_quick_41) (fun _ _ _ => none) n v5 v6 m7) m7 41 [(0, rX X 200), (1, .int v5), (2, .int v6)] [] := by
      refine fx_ind (fun (f : Int32 → Int32 → Me → Option (Int32 × Me)) => ∀ (v5 : Int32) (v6 : Int32) (m7 : Me), J X oI (f v5 v6 m7) m7 41 [(0, rX X 200), (1, .int v5), (2, .int v6)] []) (fun _ _ _ => r_none) ?_
      intro s41 hs41 v5 v6 m7
      unfold lb_Mo_quick_41
      refine r_iload_n (pc := 41) hX 2 dX8_quick_41 rfl rfl ?_
      refine r_aload_n (pc := 42) hX 0 dX8_quick_42 rfl rfl ?_
      refine r_getI (pc := 43) hX dX8_quick_43 fp8_88 k200 (by decide) ?_
      refine r_icmp_ge (tgt := 175) (pc := 46) hX dX8_quick_46 (by decide) ?_ ?_
      · skip
        refine r_iload_n (pc := 175) hX 1 dX8_quick_175 rfl rfl ?_
        exact r_iretI (pc := 176) hX hE dX8_quick_176
      · skip
        refine r_aload_n (pc := 49) hX 0 dX8_quick_49 rfl rfl ?_
        refine r_getR (pc := 50) hX dX8_quick_50 fp8_69 k200 rfl g200_35 ?_
        refine r_iload_n (pc := 53) hX 2 dX8_quick_53 rfl rfl ?_
        refine r_iald (pc := 54) hX dX8_quick_54 k220 (fun v8 => ?_)
        refine r_istore_n (L' := [(3, .int v8), (0, rX X 200), (1, .int v5), (2, .int v6)]) (pc := 55) hX dX8_quick_55 rfl (by decide) rfl ?_
        refine r_bipush (pc := 56) hX dX8_quick_56 bp_16 ?_
        refine r_istore (L' := [(4, .int (16 : Int32)), (3, .int v8), (0, rX X 200), (1, .int v5), (2, .int v6)]) (pc := 58) hX dX8_quick_58 (by decide) rfl ?_
        refine r_iconst (pc := 60) hX dX8_quick_60 ic_0 ?_
        refine r_istore (L' := [(5, .int (0 : Int32)), (4, .int (16 : Int32)), (3, .int v8), (0, rX X 200), (1, .int v5), (2, .int v6)]) (pc := 61) hX dX8_quick_61 (by decide) rfl ?_
        refine r_join (P := fun k => ∀ (v9 : Int32) (m10 : Me), J X oI (k v9 m10) m10 146 [(0, rX X 200), (1, .int v5), (2, .int v6), (3, .int v8), (4, .int v9)] []) ?_ ?_
        · intro v9 m10
          refine r_aload_n (pc := 146) hX 0 dX8_quick_146 rfl rfl ?_
          refine r_getR (pc := 147) hX dX8_quick_147 fp8_28 k200 rfl g200_9 ?_
          refine r_iload_n (pc := 150) hX 3 dX8_quick_150 rfl rfl ?_
          refine r_iload (pc := 151) hX 4 dX8_quick_151 rfl ?_
          refine r_iast (pc := 153) hX dX8_quick_153 k207 (fun m11 => ?_)
          refine r_iload_n (pc := 154) hX 1 dX8_quick_154 rfl rfl ?_
          refine r_iload (pc := 155) hX 4 dX8_quick_155 rfl ?_
          refine r_bipush (pc := 157) hX dX8_quick_157 bp_16 ?_
          refine r_join (P := fun k => ∀ (v12 : Int32), J X oI (k v12) m11 167 [(0, rX X 200), (2, .int v6)] [.int v12, .int v5]) ?_ ?_
          · intro v12
            refine r_iadd (pc := 167) hX dX8_quick_167 ?_
            refine r_nmI (fun v13 => ?_)
            refine r_istore_n (L' := [(1, .int v13), (0, rX X 200), (2, .int v6)]) (pc := 168) hX dX8_quick_168 rfl (by decide) rfl ?_
            refine r_iincN (L' := fun w => [(2, .int w), (1, .int v13), (0, rX X 200)]) (pc := 169) hX 2 dX8_quick_169 rfl rfl (by decide) (fun _ => rfl) (fun v14 => ?_)
            refine r_goto (tgt := 41) (pc := 172) hX dX8_quick_172 (by decide) ?_
            exact r_sub [2, 1, 0] rfl (hs41 v13 v14 m11)
          intro k167_ hk167_
          refine r_icmp_ne (tgt := 166) (pc := 159) hX dX8_quick_159 (by decide) ?_ ?_
          · skip
            refine r_iconst (pc := 166) hX dX8_quick_166 ic_0 ?_
            exact r_sub [0, 2] rfl (hk167_ (0 : Int32))
          · skip
            refine r_iconst (pc := 162) hX dX8_quick_162 ic_1 ?_
            refine r_goto (tgt := 167) (pc := 163) hX dX8_quick_163 (by decide) ?_
            exact r_sub [0, 2] rfl (hk167_ (1 : Int32))
        intro k146_ hk146_
        have hl63 : ∀ n : Nat, ∀ (v15 : Int32) (v16 : Int32) (m17 : Me), J X oI (fx (lb_Mo_quick_63 v8 k146_) (fun _ _ _ => none) n v15 v16 m17) m17 63 [(0, rX X 200), (1, .int v5), (2, .int v6), (3, .int v8), (4, .int v15), (5, .int v16)] [] := by
          refine fx_ind (fun (f : Int32 → Int32 → Me → Option (Int32 × Me)) => ∀ (v15 : Int32) (v16 : Int32) (m17 : Me), J X oI (f v15 v16 m17) m17 63 [(0, rX X 200), (1, .int v5), (2, .int v6), (3, .int v8), (4, .int v15), (5, .int v16)] []) (fun _ _ _ => r_none) ?_
          intro s63 hs63 v15 v16 m17
          unfold lb_Mo_quick_63
          refine r_iload (pc := 63) hX 5 dX8_quick_63 rfl ?_
          refine r_aload_n (pc := 65) hX 0 dX8_quick_65 rfl rfl ?_
          refine r_iload_n (pc := 66) hX 3 dX8_quick_66 rfl rfl ?_
          refine r_cvP (st := [.int v16]) (pc := 67) hX dX8_quick_67 MI_Mo_ways MV_Mo_ways lkX8_190 k200 (c_Mo_ways v8 m17) rfl rfl (Nat.le_of_ble_eq_true rfl) (by decide) (fun v18 => ?_)
          refine r_icmp_ge (tgt := 146) (pc := 70) hX dX8_quick_70 (by decide) ?_ ?_
          · skip
            exact r_sub [0, 1, 2, 3, 4] rfl (hk146_ v15 m17)
          · skip
            refine r_iload (pc := 73) hX 4 dX8_quick_73 rfl ?_
            refine r_bipush (pc := 75) hX dX8_quick_75 bp_16 ?_
            refine r_join (P := fun k => ∀ (v19 : Int32), J X oI (k v19) m17 102 [(0, rX X 200), (1, .int v5), (2, .int v6), (3, .int v8), (4, .int v15), (5, .int v16)] [.int v19]) ?_ ?_
            · intro v19
              refine r_istore (L' := [(6, .int v19), (0, rX X 200), (1, .int v5), (2, .int v6), (3, .int v8), (4, .int v15), (5, .int v16)]) (pc := 102) hX dX8_quick_102 (by decide) rfl ?_
              refine r_iload (pc := 104) hX 0 dX8_quick_104 rfl ?_
              refine r_join (P := fun k => ∀ (v20 : Int32) (m21 : Me), J X oI (k v20 m21) m21 138 [(0, rX X 200), (1, .int v5), (2, .int v6), (3, .int v8), (5, .int v16)] [.int v20]) ?_ ?_
              · intro v20 m21
                refine r_istore (L' := [(4, .int v20), (0, rX X 200), (1, .int v5), (2, .int v6), (3, .int v8), (5, .int v16)]) (pc := 138) hX dX8_quick_138 (by decide) rfl ?_
                refine r_iincN (L' := fun w => [(5, .int w), (4, .int v20), (0, rX X 200), (1, .int v5), (2, .int v6), (3, .int v8)]) (pc := 140) hX 5 dX8_quick_140 rfl rfl (by decide) (fun _ => rfl) (fun v22 => ?_)
                refine r_goto (tgt := 63) (pc := 143) hX dX8_quick_143 (by decide) ?_
                exact r_sub [2, 3, 4, 5, 1, 0] rfl (hs63 v20 v22 m21)
              intro k138_ hk138_
              refine r_join (P := fun k => ∀ (m23 : Me), J X oI (k m23) m23 136 [(0, rX X 200), (1, .int v5), (2, .int v6), (3, .int v8), (4, .int v15), (5, .int v16)] []) ?_ ?_
              · intro m23
                refine r_iload (pc := 136) hX 4 dX8_quick_136 rfl ?_
                exact r_sub [0, 1, 2, 3, 5] rfl (hk138_ v15 m23)
              intro k136_ hk136_
              refine r_if_eq (tgt := 136) (pc := 106) hX dX8_quick_106 (by decide) ?_ ?_
              · skip
                exact r_sub [1, 2, 3, 4, 5, 6] rfl (hk136_ m17)
              · skip
                refine r_aload_n (pc := 109) hX 1 dX8_quick_109 rfl rfl ?_
                refine r_iload_n (pc := 110) hX 4 dX8_quick_110 rfl rfl ?_
                refine r_iload (pc := 111) hX 6 dX8_quick_111 rfl ?_
                refine r_iconst (pc := 113) hX dX8_quick_113 ic_0 ?_
                refine r_cvI (st := []) (pc := 114) hX dX8_quick_114 MI_Mo_isOpen MV_Mo_isOpen lkX8_201 k200 (c_Mo_isOpen v8 v16 (0 : Int32) m17) rfl rfl (Nat.le_of_ble_eq_true rfl) (by decide) (fun v24 m25 => ?_)
                refine r_if_eq (tgt := 136) (pc := 117) hX dX8_quick_117 (by decide) ?_ ?_
                · skip
                  exact r_sub [1, 2, 3, 4, 5, 6] rfl (hk136_ m25)
                · skip
                  refine r_aload_n (pc := 120) hX 1 dX8_quick_120 rfl rfl ?_
                  refine r_iload_n (pc := 121) hX 4 dX8_quick_121 rfl rfl ?_
                  refine r_iload (pc := 122) hX 6 dX8_quick_122 rfl ?_
                  refine r_cvI (st := []) (pc := 124) hX dX8_quick_124 MI_Mo_clashInHand MV_Mo_clashInHand lkX8_218 k200 (c_Mo_clashInHand v8 v16 m25) rfl rfl (Nat.le_of_ble_eq_true rfl) (by decide) (fun v26 m27 => ?_)
                  refine r_iconst (pc := 127) hX dX8_quick_127 ic_m1 ?_
                  refine r_icmp_ne (tgt := 136) (pc := 128) hX dX8_quick_128 (by decide) ?_ ?_
                  · skip
                    exact r_sub [1, 2, 3, 4, 5, 6] rfl (hk136_ m27)
                  · skip
                    refine r_iload (pc := 131) hX 6 dX8_quick_131 rfl ?_
                    refine r_goto (tgt := 138) (pc := 133) hX dX8_quick_133 (by decide) ?_
                    exact r_sub [1, 2, 3, 4, 6] rfl (hk138_ v16 m27)
            intro k102_ hk102_
            refine r_join (P := fun k => J X oI (k) m17 97 [(0, rX X 200), (1, .int v5), (2, .int v6), (3, .int v8), (4, .int v15), (5, .int v16)] []) ?_ ?_
            · skip
              refine r_iconst (pc := 97) hX dX8_quick_97 ic_1 ?_
              refine r_goto (tgt := 102) (pc := 98) hX dX8_quick_98 (by decide) ?_
              exact hk102_ (1 : Int32)
            intro k97_ hk97_
            refine r_icmp_eq (tgt := 97) (pc := 77) hX dX8_quick_77 (by decide) ?_ ?_
            · skip
              exact hk97_
            · skip
              refine r_aload_n (pc := 80) hX 0 dX8_quick_80 rfl rfl ?_
              refine r_iload_n (pc := 81) hX 3 dX8_quick_81 rfl rfl ?_
              refine r_iload (pc := 82) hX 5 dX8_quick_82 rfl ?_
              refine r_cvP (st := []) (pc := 84) hX dX8_quick_84 MI_Mo_priceOf MV_Mo_priceOf lkX8_197 k200 (c_Mo_priceOf v8 v16 m17) rfl rfl (Nat.le_of_ble_eq_true rfl) (by decide) (fun v28 => ?_)
              refine r_aload_n (pc := 87) hX 0 dX8_quick_87 rfl rfl ?_
              refine r_iload_n (pc := 88) hX 3 dX8_quick_88 rfl rfl ?_
              refine r_iload (pc := 89) hX 4 dX8_quick_89 rfl ?_
              refine r_cvP (st := [.int v28]) (pc := 91) hX dX8_quick_91 MI_Mo_priceOf MV_Mo_priceOf lkX8_197 k200 (c_Mo_priceOf v8 v15 m17) rfl rfl (Nat.le_of_ble_eq_true rfl) (by decide) (fun v29 => ?_)
              refine r_icmp_ge (tgt := 101) (pc := 94) hX dX8_quick_94 (by decide) ?_ ?_
              · skip
                refine r_iconst (pc := 101) hX dX8_quick_101 ic_0 ?_
                exact hk102_ (0 : Int32)
              · skip
                exact hk97_
        exact r_sub [3, 4, 5, 2, 1, 0] rfl (hl63 FU (16 : Int32) (0 : Int32) m7)
    exact r_sub [1, 2, 0] rfl (hl41 FU (0 : Int32) (0 : Int32) m4)
  intro k39_ hk39_
  have hl17 : ∀ n : Nat, ∀ (v30 : Int32) (m31 : Me), J X oI (fx (lb_Mo_quick_17 k39_) (fun _ _ => none) n v30 m31) m31 17 [(0, rX X 200), (1, .int (0 : Int32)), (2, .int v30)] [] := by
    refine fx_ind (fun (f : Int32 → Me → Option (Int32 × Me)) => ∀ (v30 : Int32) (m31 : Me), J X oI (f v30 m31) m31 17 [(0, rX X 200), (1, .int (0 : Int32)), (2, .int v30)] []) (fun _ _ => r_none) ?_
    intro s17 hs17 v30 m31
    unfold lb_Mo_quick_17
    refine r_iload_n (pc := 17) hX 2 dX8_quick_17 rfl rfl ?_
    refine r_aload_n (pc := 18) hX 0 dX8_quick_18 rfl rfl ?_
    refine r_getI (pc := 19) hX dX8_quick_19 fp8_88 k200 (by decide) ?_
    refine r_icmp_ge (tgt := 39) (pc := 22) hX dX8_quick_22 (by decide) ?_ ?_
    · skip
      exact r_sub [0, 1] rfl (hk39_ m31)
    · skip
      refine r_aload_n (pc := 25) hX 0 dX8_quick_25 rfl rfl ?_
      refine r_getR (pc := 26) hX dX8_quick_26 fp8_28 k200 rfl g200_9 ?_
      refine r_iload_n (pc := 29) hX 2 dX8_quick_29 rfl rfl ?_
      refine r_bipush (pc := 30) hX dX8_quick_30 bp_16 ?_
      refine r_iast (pc := 32) hX dX8_quick_32 k207 (fun m32 => ?_)
      refine r_iincN (L' := fun w => [(2, .int w), (0, rX X 200), (1, .int (0 : Int32))]) (pc := 33) hX 2 dX8_quick_33 rfl rfl (by decide) (fun _ => rfl) (fun v33 => ?_)
      refine r_goto (tgt := 17) (pc := 36) hX dX8_quick_36 (by decide) ?_
      exact r_sub [1, 2, 0] rfl (hs17 v33 m32)
  exact r_sub [2, 1, 0] rfl (hl17 FU (0 : Int32) m3)
def f_Mo_why (a0 : Int32) (a1 : Int32) (m : Me) : Option (Int32 × Me) := bd (si m 200 0 (0 : Int32)) (fun m1 => cP (f_Mo_isWay a0 a1 m1) (fun v2 => if v2 = 0 then some ((-3 : Int32), m1) else rd (ln 207) a0 (m1.1 207) (fun v3 => if v3 = (16 : Int32) then cI (f_Mo_clashInHand a0 a1 m1) (fun v4 m5 => some (v4, m5)) else some ((-4 : Int32), m1))))
set_option maxHeartbeats 4000000 in
set_option maxRecDepth 100000 in
theorem c_Mo_why (a0 : Int32) (a1 : Int32)  (m : Me) (r : Int32) (m' : Me) (h : f_Mo_why a0 a1 m = some (r, m')) : Ct yX8_why cX8_why 3 (some .int) 5 (fun ad => [.ref (ad 200), .int a0, .int a1]) m (fun ad => (some (.int r), m')) := by
  refine mk_ct (F := f_Mo_why a0 a1 m) (fun _ => oI) (r, m') h (fun _ => rfl) (by decide) (fun _ => Nat.le_of_ble_eq_true rfl) ?_
  intro X hX hE
  show J X oI (f_Mo_why a0 a1 m) m 0 [(0, rX X 200), (1, .int a0), (2, .int a1)] []
  unfold f_Mo_why
  refine r_aload_n (pc := 0) hX 0 dX8_why_0 rfl rfl ?_
  refine r_iconst (pc := 1) hX dX8_why_1 ic_0 ?_
  refine r_putI (pc := 2) hX dX8_why_2 fp8_78 k200 (fun m1 => ?_)
  refine r_aload_n (pc := 5) hX 0 dX8_why_5 rfl rfl ?_
  refine r_iload_n (pc := 6) hX 1 dX8_why_6 rfl rfl ?_
  refine r_iload_n (pc := 7) hX 2 dX8_why_7 rfl rfl ?_
  refine r_cvP (st := []) (pc := 8) hX dX8_why_8 MI_Mo_isWay MV_Mo_isWay lkX8_194 k200 (c_Mo_isWay a0 a1 m1) rfl rfl (Nat.le_of_ble_eq_true rfl) (by decide) (fun v2 => ?_)
  refine r_if_ne (tgt := 17) (pc := 11) hX dX8_why_11 (by decide) ?_ ?_
  · skip
    refine r_aload_n (pc := 17) hX 0 dX8_why_17 rfl rfl ?_
    refine r_getR (pc := 18) hX dX8_why_18 fp8_28 k200 rfl g200_9 ?_
    refine r_iload_n (pc := 21) hX 1 dX8_why_21 rfl rfl ?_
    refine r_iald (pc := 22) hX dX8_why_22 k207 (fun v3 => ?_)
    refine r_bipush (pc := 23) hX dX8_why_23 bp_16 ?_
    refine r_icmp_eq (tgt := 31) (pc := 25) hX dX8_why_25 (by decide) ?_ ?_
    · skip
      refine r_aload_n (pc := 31) hX 0 dX8_why_31 rfl rfl ?_
      refine r_iload_n (pc := 32) hX 1 dX8_why_32 rfl rfl ?_
      refine r_iload_n (pc := 33) hX 2 dX8_why_33 rfl rfl ?_
      refine r_cvI (st := []) (pc := 34) hX dX8_why_34 MI_Mo_clashInHand MV_Mo_clashInHand lkX8_218 k200 (c_Mo_clashInHand a0 a1 m1) rfl rfl (Nat.le_of_ble_eq_true rfl) (by decide) (fun v4 m5 => ?_)
      exact r_iretI (pc := 37) hX hE dX8_why_37
    · skip
      refine r_bipush (pc := 28) hX dX8_why_28 bp_m4 ?_
      exact r_iretI (pc := 30) hX hE dX8_why_30
  · skip
    refine r_bipush (pc := 14) hX dX8_why_14 bp_m3 ?_
    exact r_iretI (pc := 16) hX hE dX8_why_16
def lb_Mo_slack_22 (v3 : Int32) (k102_ : Int32 → Me → Option (Int32 × Me)) (s22 : Int32 → Int32 → Me → Option (Int32 × Me)) (v10 : Int32) (v11 : Int32) (m12 : Me) : Option (Int32 × Me) := cP (f_Mo_ways v3 m12) (fun v13 => if v13 ≤ v11 then (k102_ v10 m12) else rd (ln 207) v3 (m12.1 207) (fun v14 => if v14 = (16 : Int32) then (k102_ v10 m12) else bd (fun (v15 : Int32) (m16 : Me) => bd (v11 + 1) (fun v17 => (s22 v15 v17 m16))) (fun k95_ => bd (fun (m18 : Me) => (k95_ (1 : Int32) m18)) (fun k90_ => if v10 = 0 then cP (f_Mo_priceOf v3 v11 m12) (fun v19 => rd (ln 207) v3 (m12.1 207) (fun v20 => cP (f_Mo_priceOf v3 v20 m12) (fun v21 => bd (fun (m22 : Me) => (k95_ (0 : Int32) m22)) (fun k94_ => if v21 ≤ v19 then (k94_ m12) else cI (f_Mo_isOpen v3 v11 (0 : Int32) m12) (fun v23 m24 => if v23 = 0 then (k94_ m24) else cI (f_Mo_clashInHand v3 v11 m24) (fun v25 m26 => if v25 = (-1 : Int32) then (k90_ m26) else (k94_ m26))))))) else (k90_ m12)))))
def lb_Mo_slack_9  (s9 : Int32 → Int32 → Me → Option (Int32 × Me)) (v2 : Int32) (v3 : Int32) (m4 : Me) : Option (Int32 × Me) := if (m4.1 200 1) ≤ v3 then some (v2, m4) else bd (fun (v5 : Int32) (m6 : Me) => bd (fun (v7 : Int32) => bd ((v2 + v7)) (fun v8 => bd (v3 + 1) (fun v9 => (s9 v8 v9 m6)))) (fun k112_ => if v5 = 0 then (k112_ (0 : Int32)) else (k112_ (1 : Int32)))) (fun k102_ => ((fx (lb_Mo_slack_22 v3 k102_) (fun _ _ _ => none) FU) (0 : Int32) (0 : Int32) m4))
def f_Mo_slack  (m : Me) : Option (Int32 × Me) := bd (si m 200 0 (0 : Int32)) (fun m1 => ((fx (lb_Mo_slack_9) (fun _ _ _ => none) FU) (0 : Int32) (0 : Int32) m1))
set_option maxHeartbeats 4000000 in
set_option maxRecDepth 100000 in
theorem c_Mo_slack   (m : Me) (r : Int32) (m' : Me) (h : f_Mo_slack  m = some (r, m')) : Ct yX8_slack cX8_slack 5 (some .int) 5 (fun ad => [.ref (ad 200)]) m (fun ad => (some (.int r), m')) := by
  refine mk_ct (F := f_Mo_slack  m) (fun _ => oI) (r, m') h (fun _ => rfl) (by decide) (fun _ => Nat.le_of_ble_eq_true rfl) ?_
  intro X hX hE
  show J X oI (f_Mo_slack  m) m 0 [(0, rX X 200)] []
  unfold f_Mo_slack
  refine r_aload_n (pc := 0) hX 0 dX8_slack_0 rfl rfl ?_
  refine r_iconst (pc := 1) hX dX8_slack_1 ic_0 ?_
  refine r_putI (pc := 2) hX dX8_slack_2 fp8_78 k200 (fun m1 => ?_)
  refine r_iconst (pc := 5) hX dX8_slack_5 ic_0 ?_
  refine r_istore_n (L' := [(1, .int (0 : Int32)), (0, rX X 200)]) (pc := 6) hX dX8_slack_6 rfl (by decide) rfl ?_
  refine r_iconst (pc := 7) hX dX8_slack_7 ic_0 ?_
  refine r_istore_n (L' := [(2, .int (0 : Int32)), (1, .int (0 : Int32)), (0, rX X 200)]) (pc := 8) hX dX8_slack_8 rfl (by decide) rfl ?_
  have hl9 : ∀ n : Nat, ∀ (v2 : Int32) (v3 : Int32) (m4 : Me), J X oI (fx (lb_Mo_slack_9) (fun _ _ _ => none) n v2 v3 m4) m4 9 [(0, rX X 200), (1, .int v2), (2, .int v3)] [] := by
    refine fx_ind (fun (f : Int32 → Int32 → Me → Option (Int32 × Me)) => ∀ (v2 : Int32) (v3 : Int32) (m4 : Me), J X oI (f v2 v3 m4) m4 9 [(0, rX X 200), (1, .int v2), (2, .int v3)] []) (fun _ _ _ => r_none) ?_
    intro s9 hs9 v2 v3 m4
    unfold lb_Mo_slack_9
    refine r_iload_n (pc := 9) hX 2 dX8_slack_9 rfl rfl ?_
    refine r_aload_n (pc := 10) hX 0 dX8_slack_10 rfl rfl ?_
    refine r_getI (pc := 11) hX dX8_slack_11 fp8_88 k200 (by decide) ?_
    refine r_icmp_ge (tgt := 120) (pc := 14) hX dX8_slack_14 (by decide) ?_ ?_
    · skip
      refine r_iload_n (pc := 120) hX 1 dX8_slack_120 rfl rfl ?_
      exact r_iretI (pc := 121) hX hE dX8_slack_121
    · skip
      refine r_iconst (pc := 17) hX dX8_slack_17 ic_0 ?_
      refine r_istore_n (L' := [(3, .int (0 : Int32)), (0, rX X 200), (1, .int v2), (2, .int v3)]) (pc := 18) hX dX8_slack_18 rfl (by decide) rfl ?_
      refine r_iconst (pc := 19) hX dX8_slack_19 ic_0 ?_
      refine r_istore (L' := [(4, .int (0 : Int32)), (3, .int (0 : Int32)), (0, rX X 200), (1, .int v2), (2, .int v3)]) (pc := 20) hX dX8_slack_20 (by decide) rfl ?_
      refine r_join (P := fun k => ∀ (v5 : Int32) (m6 : Me), J X oI (k v5 m6) m6 102 [(0, rX X 200), (1, .int v2), (2, .int v3), (3, .int v5)] []) ?_ ?_
      · intro v5 m6
        refine r_iload_n (pc := 102) hX 1 dX8_slack_102 rfl rfl ?_
        refine r_iload_n (pc := 103) hX 3 dX8_slack_103 rfl rfl ?_
        refine r_join (P := fun k => ∀ (v7 : Int32), J X oI (k v7) m6 112 [(0, rX X 200), (2, .int v3)] [.int v7, .int v2]) ?_ ?_
        · intro v7
          refine r_iadd (pc := 112) hX dX8_slack_112 ?_
          refine r_nmI (fun v8 => ?_)
          refine r_istore_n (L' := [(1, .int v8), (0, rX X 200), (2, .int v3)]) (pc := 113) hX dX8_slack_113 rfl (by decide) rfl ?_
          refine r_iincN (L' := fun w => [(2, .int w), (1, .int v8), (0, rX X 200)]) (pc := 114) hX 2 dX8_slack_114 rfl rfl (by decide) (fun _ => rfl) (fun v9 => ?_)
          refine r_goto (tgt := 9) (pc := 117) hX dX8_slack_117 (by decide) ?_
          exact r_sub [2, 1, 0] rfl (hs9 v8 v9 m6)
        intro k112_ hk112_
        refine r_if_eq (tgt := 111) (pc := 104) hX dX8_slack_104 (by decide) ?_ ?_
        · skip
          refine r_iconst (pc := 111) hX dX8_slack_111 ic_0 ?_
          exact r_sub [0, 2] rfl (hk112_ (0 : Int32))
        · skip
          refine r_iconst (pc := 107) hX dX8_slack_107 ic_1 ?_
          refine r_goto (tgt := 112) (pc := 108) hX dX8_slack_108 (by decide) ?_
          exact r_sub [0, 2] rfl (hk112_ (1 : Int32))
      intro k102_ hk102_
      have hl22 : ∀ n : Nat, ∀ (v10 : Int32) (v11 : Int32) (m12 : Me), J X oI (fx (lb_Mo_slack_22 v3 k102_) (fun _ _ _ => none) n v10 v11 m12) m12 22 [(0, rX X 200), (1, .int v2), (2, .int v3), (3, .int v10), (4, .int v11)] [] := by
        refine fx_ind (fun (f : Int32 → Int32 → Me → Option (Int32 × Me)) => ∀ (v10 : Int32) (v11 : Int32) (m12 : Me), J X oI (f v10 v11 m12) m12 22 [(0, rX X 200), (1, .int v2), (2, .int v3), (3, .int v10), (4, .int v11)] []) (fun _ _ _ => r_none) ?_
        intro s22 hs22 v10 v11 m12
        unfold lb_Mo_slack_22
        refine r_iload (pc := 22) hX 4 dX8_slack_22 rfl ?_
        refine r_aload_n (pc := 24) hX 0 dX8_slack_24 rfl rfl ?_
        refine r_iload_n (pc := 25) hX 2 dX8_slack_25 rfl rfl ?_
        refine r_cvP (st := [.int v11]) (pc := 26) hX dX8_slack_26 MI_Mo_ways MV_Mo_ways lkX8_190 k200 (c_Mo_ways v3 m12) rfl rfl (Nat.le_of_ble_eq_true rfl) (by decide) (fun v13 => ?_)
        refine r_icmp_ge (tgt := 102) (pc := 29) hX dX8_slack_29 (by decide) ?_ ?_
        · skip
          exact r_sub [0, 1, 2, 3] rfl (hk102_ v10 m12)
        · skip
          refine r_aload_n (pc := 32) hX 0 dX8_slack_32 rfl rfl ?_
          refine r_getR (pc := 33) hX dX8_slack_33 fp8_28 k200 rfl g200_9 ?_
          refine r_iload_n (pc := 36) hX 2 dX8_slack_36 rfl rfl ?_
          refine r_iald (pc := 37) hX dX8_slack_37 k207 (fun v14 => ?_)
          refine r_bipush (pc := 38) hX dX8_slack_38 bp_16 ?_
          refine r_icmp_eq (tgt := 102) (pc := 40) hX dX8_slack_40 (by decide) ?_ ?_
          · skip
            exact r_sub [0, 1, 2, 3] rfl (hk102_ v10 m12)
          · skip
            refine r_iload_n (pc := 43) hX 3 dX8_slack_43 rfl rfl ?_
            refine r_join (P := fun k => ∀ (v15 : Int32) (m16 : Me), J X oI (k v15 m16) m16 95 [(0, rX X 200), (1, .int v2), (2, .int v3), (4, .int v11)] [.int v15]) ?_ ?_
            · intro v15 m16
              refine r_istore_n (L' := [(3, .int v15), (0, rX X 200), (1, .int v2), (2, .int v3), (4, .int v11)]) (pc := 95) hX dX8_slack_95 rfl (by decide) rfl ?_
              refine r_iincN (L' := fun w => [(4, .int w), (3, .int v15), (0, rX X 200), (1, .int v2), (2, .int v3)]) (pc := 96) hX 4 dX8_slack_96 rfl rfl (by decide) (fun _ => rfl) (fun v17 => ?_)
              refine r_goto (tgt := 22) (pc := 99) hX dX8_slack_99 (by decide) ?_
              exact r_sub [2, 3, 4, 1, 0] rfl (hs22 v15 v17 m16)
            intro k95_ hk95_
            refine r_join (P := fun k => ∀ (m18 : Me), J X oI (k m18) m18 90 [(0, rX X 200), (1, .int v2), (2, .int v3), (4, .int v11)] []) ?_ ?_
            · intro m18
              refine r_iconst (pc := 90) hX dX8_slack_90 ic_1 ?_
              refine r_goto (tgt := 95) (pc := 91) hX dX8_slack_91 (by decide) ?_
              exact hk95_ (1 : Int32) m18
            intro k90_ hk90_
            refine r_if_ne (tgt := 90) (pc := 44) hX dX8_slack_44 (by decide) ?_ ?_
            · skip
              exact r_sub [0, 1, 2, 4] rfl (hk90_ m12)
            · skip
              refine r_aload_n (pc := 47) hX 0 dX8_slack_47 rfl rfl ?_
              refine r_iload_n (pc := 48) hX 2 dX8_slack_48 rfl rfl ?_
              refine r_iload (pc := 49) hX 4 dX8_slack_49 rfl ?_
              refine r_cvP (st := []) (pc := 51) hX dX8_slack_51 MI_Mo_priceOf MV_Mo_priceOf lkX8_197 k200 (c_Mo_priceOf v3 v11 m12) rfl rfl (Nat.le_of_ble_eq_true rfl) (by decide) (fun v19 => ?_)
              refine r_aload_n (pc := 54) hX 0 dX8_slack_54 rfl rfl ?_
              refine r_iload_n (pc := 55) hX 2 dX8_slack_55 rfl rfl ?_
              refine r_aload_n (pc := 56) hX 0 dX8_slack_56 rfl rfl ?_
              refine r_getR (pc := 57) hX dX8_slack_57 fp8_28 k200 rfl g200_9 ?_
              refine r_iload_n (pc := 60) hX 2 dX8_slack_60 rfl rfl ?_
              refine r_iald (pc := 61) hX dX8_slack_61 k207 (fun v20 => ?_)
              refine r_cvP (st := [.int v19]) (pc := 62) hX dX8_slack_62 MI_Mo_priceOf MV_Mo_priceOf lkX8_197 k200 (c_Mo_priceOf v3 v20 m12) rfl rfl (Nat.le_of_ble_eq_true rfl) (by decide) (fun v21 => ?_)
              refine r_join (P := fun k => ∀ (m22 : Me), J X oI (k m22) m22 94 [(0, rX X 200), (1, .int v2), (2, .int v3), (4, .int v11)] []) ?_ ?_
              · intro m22
                refine r_iconst (pc := 94) hX dX8_slack_94 ic_0 ?_
                exact hk95_ (0 : Int32) m22
              intro k94_ hk94_
              refine r_icmp_ge (tgt := 94) (pc := 65) hX dX8_slack_65 (by decide) ?_ ?_
              · skip
                exact r_sub [0, 1, 2, 4] rfl (hk94_ m12)
              · skip
                refine r_aload_n (pc := 68) hX 0 dX8_slack_68 rfl rfl ?_
                refine r_iload_n (pc := 69) hX 2 dX8_slack_69 rfl rfl ?_
                refine r_iload (pc := 70) hX 4 dX8_slack_70 rfl ?_
                refine r_iconst (pc := 72) hX dX8_slack_72 ic_0 ?_
                refine r_cvI (st := []) (pc := 73) hX dX8_slack_73 MI_Mo_isOpen MV_Mo_isOpen lkX8_201 k200 (c_Mo_isOpen v3 v11 (0 : Int32) m12) rfl rfl (Nat.le_of_ble_eq_true rfl) (by decide) (fun v23 m24 => ?_)
                refine r_if_eq (tgt := 94) (pc := 76) hX dX8_slack_76 (by decide) ?_ ?_
                · skip
                  exact r_sub [0, 1, 2, 4] rfl (hk94_ m24)
                · skip
                  refine r_aload_n (pc := 79) hX 0 dX8_slack_79 rfl rfl ?_
                  refine r_iload_n (pc := 80) hX 2 dX8_slack_80 rfl rfl ?_
                  refine r_iload (pc := 81) hX 4 dX8_slack_81 rfl ?_
                  refine r_cvI (st := []) (pc := 83) hX dX8_slack_83 MI_Mo_clashInHand MV_Mo_clashInHand lkX8_218 k200 (c_Mo_clashInHand v3 v11 m24) rfl rfl (Nat.le_of_ble_eq_true rfl) (by decide) (fun v25 m26 => ?_)
                  refine r_iconst (pc := 86) hX dX8_slack_86 ic_m1 ?_
                  refine r_icmp_ne (tgt := 94) (pc := 87) hX dX8_slack_87 (by decide) ?_ ?_
                  · skip
                    exact r_sub [0, 1, 2, 4] rfl (hk94_ m26)
                  · skip
                    exact r_sub [0, 1, 2, 4] rfl (hk90_ m26)
      exact r_sub [2, 3, 4, 1, 0] rfl (hl22 FU (0 : Int32) (0 : Int32) m4)
  exact r_sub [2, 1, 0] rfl (hl9 FU (0 : Int32) (0 : Int32) m1)
def lb_Mo_isSteady_35 (a0 : Int32) (a1 : Int32) (v1 : Int32) (v2 : Int32) (k91_ : Me → Option (Int32 × Me)) (s35 : Int32 → Me → Option (Int32 × Me)) (v8 : Int32) (m9 : Me) : Option (Int32 × Me) := if a0 ≤ v8 then (k91_ m9) else rd (ln 220) v8 (m9.1 220) (fun v10 => rd (ln 221) v10 (m9.1 221) (fun v11 => bd (fun (m12 : Me) => bd (v8 + 1) (fun v13 => (s35 v13 m12))) (fun k85_ => if v2 < v11 then (k85_ m9) else rd (ln 222) v10 (m9.1 222) (fun v14 => cI (f_Mo_doClash v1 a1 v10 v14 v2 m9) (fun v15 m16 => if v15 = 0 then (k85_ m16) else some ((0 : Int32), m16))))))
def lb_Mo_isSteady_11 (a0 : Int32) (a1 : Int32) (v1 : Int32) (s11 : Int32 → Me → Option (Int32 × Me)) (v2 : Int32) (m3 : Me) : Option (Int32 × Me) := if (6 : Int32) < v2 then some ((1 : Int32), m3) else cI (f_Mo_isOpen v1 a1 v2 m3) (fun v4 m5 => if v4 = 0 then some ((0 : Int32), m5) else bd (fun (m6 : Me) => bd (v2 + 1) (fun v7 => (s11 v7 m6))) (fun k91_ => ((fx (lb_Mo_isSteady_35 a0 a1 v1 v2 k91_) (fun _ _ => none) FU) (0 : Int32) m5)))
def f_Mo_isSteady (a0 : Int32) (a1 : Int32) (a2 : Int32) (m : Me) : Option (Int32 × Me) := rd (ln 220) a0 (m.1 220) (fun v1 => ((fx (lb_Mo_isSteady_11 a0 a1 v1) (fun _ _ => none) FU) a2 m))
set_option maxHeartbeats 4000000 in
set_option maxRecDepth 100000 in
theorem c_Mo_isSteady (a0 : Int32) (a1 : Int32) (a2 : Int32)  (m : Me) (r : Int32) (m' : Me) (h : f_Mo_isSteady a0 a1 a2 m = some (r, m')) : Ct yX8_isSteady cX8_isSteady 8 (some .boolean) 4 (fun ad => [.ref (ad 200), .int a0, .int a1, .int a2]) m (fun ad => (some (.int r), m')) := by
  refine mk_ct (F := f_Mo_isSteady a0 a1 a2 m) (fun _ => oI) (r, m') h (fun _ => rfl) (by decide) (fun _ => Nat.le_of_ble_eq_true rfl) ?_
  intro X hX hE
  show J X oI (f_Mo_isSteady a0 a1 a2 m) m 0 [(0, rX X 200), (1, .int a0), (2, .int a1), (3, .int a2)] []
  unfold f_Mo_isSteady
  refine r_aload_n (pc := 0) hX 0 dX8_isSteady_0 rfl rfl ?_
  refine r_getR (pc := 1) hX dX8_isSteady_1 fp8_69 k200 rfl g200_35 ?_
  refine r_iload_n (pc := 4) hX 1 dX8_isSteady_4 rfl rfl ?_
  refine r_iald (pc := 5) hX dX8_isSteady_5 k220 (fun v1 => ?_)
  refine r_istore (L' := [(4, .int v1), (0, rX X 200), (1, .int a0), (2, .int a1), (3, .int a2)]) (pc := 6) hX dX8_isSteady_6 (by decide) rfl ?_
  refine r_iload_n (pc := 8) hX 4 dX8_isSteady_8 rfl rfl ?_
  refine r_istore (L' := [(5, .int a2), (4, .int v1), (0, rX X 200), (1, .int a0), (2, .int a1), (3, .int a2)]) (pc := 9) hX dX8_isSteady_9 (by decide) rfl ?_
  have hl11 : ∀ n : Nat, ∀ (v2 : Int32) (m3 : Me), J X oI (fx (lb_Mo_isSteady_11 a0 a1 v1) (fun _ _ => none) n v2 m3) m3 11 [(0, rX X 200), (1, .int a0), (2, .int a1), (4, .int v1), (5, .int v2)] [] := by
    refine fx_ind (fun (f : Int32 → Me → Option (Int32 × Me)) => ∀ (v2 : Int32) (m3 : Me), J X oI (f v2 m3) m3 11 [(0, rX X 200), (1, .int a0), (2, .int a1), (4, .int v1), (5, .int v2)] []) (fun _ _ => r_none) ?_
    intro s11 hs11 v2 m3
    unfold lb_Mo_isSteady_11
    refine r_iload (pc := 11) hX 4 dX8_isSteady_11 rfl ?_
    refine r_bipush (pc := 13) hX dX8_isSteady_13 bp_6 ?_
    refine r_icmp_gt (tgt := 97) (pc := 15) hX dX8_isSteady_15 (by decide) ?_ ?_
    · skip
      refine r_iconst (pc := 97) hX dX8_isSteady_97 ic_1 ?_
      exact r_zretIk (pc := 98) hX hE dX8_isSteady_98 (by decide)
    · skip
      refine r_aload_n (pc := 18) hX 0 dX8_isSteady_18 rfl rfl ?_
      refine r_iload (pc := 19) hX 3 dX8_isSteady_19 rfl ?_
      refine r_iload_n (pc := 21) hX 2 dX8_isSteady_21 rfl rfl ?_
      refine r_iload (pc := 22) hX 4 dX8_isSteady_22 rfl ?_
      refine r_cvI (st := []) (pc := 24) hX dX8_isSteady_24 MI_Mo_isOpen MV_Mo_isOpen lkX8_201 k200 (c_Mo_isOpen v1 a1 v2 m3) rfl rfl (Nat.le_of_ble_eq_true rfl) (by decide) (fun v4 m5 => ?_)
      refine r_if_ne (tgt := 32) (pc := 27) hX dX8_isSteady_27 (by decide) ?_ ?_
      · skip
        refine r_iconst (pc := 32) hX dX8_isSteady_32 ic_0 ?_
        refine r_istore (L' := [(6, .int (0 : Int32)), (0, rX X 200), (1, .int a0), (2, .int a1), (4, .int v1), (5, .int v2)]) (pc := 33) hX dX8_isSteady_33 (by decide) rfl ?_
        refine r_join (P := fun k => ∀ (m6 : Me), J X oI (k m6) m6 91 [(0, rX X 200), (1, .int a0), (2, .int a1), (4, .int v1), (5, .int v2)] []) ?_ ?_
        · intro m6
          refine r_iincN (L' := fun w => [(5, .int w), (0, rX X 200), (1, .int a0), (2, .int a1), (4, .int v1)]) (pc := 91) hX 4 dX8_isSteady_91 rfl rfl (by decide) (fun _ => rfl) (fun v7 => ?_)
          refine r_goto (tgt := 11) (pc := 94) hX dX8_isSteady_94 (by decide) ?_
          exact r_sub [1, 2, 3, 4, 0] rfl (hs11 v7 m6)
        intro k91_ hk91_
        have hl35 : ∀ n : Nat, ∀ (v8 : Int32) (m9 : Me), J X oI (fx (lb_Mo_isSteady_35 a0 a1 v1 v2 k91_) (fun _ _ => none) n v8 m9) m9 35 [(0, rX X 200), (1, .int a0), (2, .int a1), (4, .int v1), (5, .int v2), (6, .int v8)] [] := by
          refine fx_ind (fun (f : Int32 → Me → Option (Int32 × Me)) => ∀ (v8 : Int32) (m9 : Me), J X oI (f v8 m9) m9 35 [(0, rX X 200), (1, .int a0), (2, .int a1), (4, .int v1), (5, .int v2), (6, .int v8)] []) (fun _ _ => r_none) ?_
          intro s35 hs35 v8 m9
          unfold lb_Mo_isSteady_35
          refine r_iload (pc := 35) hX 5 dX8_isSteady_35 rfl ?_
          refine r_iload_n (pc := 37) hX 1 dX8_isSteady_37 rfl rfl ?_
          refine r_icmp_ge (tgt := 91) (pc := 38) hX dX8_isSteady_38 (by decide) ?_ ?_
          · skip
            exact r_sub [0, 1, 2, 3, 4] rfl (hk91_ m9)
          · skip
            refine r_aload_n (pc := 41) hX 0 dX8_isSteady_41 rfl rfl ?_
            refine r_getR (pc := 42) hX dX8_isSteady_42 fp8_69 k200 rfl g200_35 ?_
            refine r_iload (pc := 45) hX 5 dX8_isSteady_45 rfl ?_
            refine r_iald (pc := 47) hX dX8_isSteady_47 k220 (fun v10 => ?_)
            refine r_istore (L' := [(7, .int v10), (0, rX X 200), (1, .int a0), (2, .int a1), (4, .int v1), (5, .int v2), (6, .int v8)]) (pc := 48) hX dX8_isSteady_48 (by decide) rfl ?_
            refine r_aload_n (pc := 50) hX 1 dX8_isSteady_50 rfl rfl ?_
            refine r_getR (pc := 51) hX dX8_isSteady_51 fp8_72 k200 rfl g200_36 ?_
            refine r_iload (pc := 54) hX 0 dX8_isSteady_54 rfl ?_
            refine r_iald (pc := 56) hX dX8_isSteady_56 k221 (fun v11 => ?_)
            refine r_iload (pc := 57) hX 5 dX8_isSteady_57 rfl ?_
            refine r_join (P := fun k => ∀ (m12 : Me), J X oI (k m12) m12 85 [(0, rX X 200), (1, .int a0), (2, .int a1), (4, .int v1), (5, .int v2), (6, .int v8)] []) ?_ ?_
            · intro m12
              refine r_iincN (L' := fun w => [(6, .int w), (0, rX X 200), (1, .int a0), (2, .int a1), (4, .int v1), (5, .int v2)]) (pc := 85) hX 5 dX8_isSteady_85 rfl rfl (by decide) (fun _ => rfl) (fun v13 => ?_)
              refine r_goto (tgt := 35) (pc := 88) hX dX8_isSteady_88 (by decide) ?_
              exact r_sub [1, 2, 3, 4, 5, 0] rfl (hs35 v13 m12)
            intro k85_ hk85_
            refine r_icmp_gt (tgt := 85) (pc := 59) hX dX8_isSteady_59 (by decide) ?_ ?_
            · skip
              exact r_sub [1, 2, 3, 4, 5, 6] rfl (hk85_ m9)
            · skip
              refine r_aload_n (pc := 62) hX 1 dX8_isSteady_62 rfl rfl ?_
              refine r_iload (pc := 63) hX 4 dX8_isSteady_63 rfl ?_
              refine r_iload_n (pc := 65) hX 3 dX8_isSteady_65 rfl rfl ?_
              refine r_iload (pc := 66) hX 0 dX8_isSteady_66 rfl ?_
              refine r_aload_n (pc := 68) hX 1 dX8_isSteady_68 rfl rfl ?_
              refine r_getR (pc := 69) hX dX8_isSteady_69 fp8_75 k200 rfl g200_37 ?_
              refine r_iload (pc := 72) hX 0 dX8_isSteady_72 rfl ?_
              refine r_iald (pc := 74) hX dX8_isSteady_74 k222 (fun v14 => ?_)
              refine r_iload (pc := 75) hX 5 dX8_isSteady_75 rfl ?_
              refine r_cvI (st := []) (pc := 77) hX dX8_isSteady_77 MI_Mo_doClash MV_Mo_doClash lkX8_204 k200 (c_Mo_doClash v1 a1 v10 v14 v2 m9) rfl rfl (Nat.le_of_ble_eq_true rfl) (by decide) (fun v15 m16 => ?_)
              refine r_if_eq (tgt := 85) (pc := 80) hX dX8_isSteady_80 (by decide) ?_ ?_
              · skip
                exact r_sub [1, 2, 3, 4, 5, 6] rfl (hk85_ m16)
              · skip
                refine r_iconst (pc := 83) hX dX8_isSteady_83 ic_0 ?_
                exact r_zretIk (pc := 84) hX hE dX8_isSteady_84 (by decide)
        exact r_sub [1, 2, 3, 4, 5, 0] rfl (hl35 FU (0 : Int32) m5)
      · skip
        refine r_iconst (pc := 30) hX dX8_isSteady_30 ic_0 ?_
        exact r_zretIk (pc := 31) hX hE dX8_isSteady_31 (by decide)
  exact r_sub [2, 3, 4, 1, 0] rfl (hl11 FU a2 m)
def lb_Mo_findSteady_47 (v2 : Int32) (v4 : Int32) (v13 : Int32) (k88_ : Int32 → Int32 → Me → Option Me) (s47 : Int32 → Int32 → Int32 → Me → Option Me) (v19 : Int32) (v20 : Int32) (v21 : Int32) (m22 : Me) : Option Me := cP (f_Mo_ways v4 m22) (fun v23 => if v23 ≤ v21 then (k88_ v19 v20 m22) else if v19 = (7 : Int32) then cI (f_Mo_isSteady v2 v21 v13 m22) (fun v24 m25 => bd (fun (v26 : Int32) (v27 : Int32) => bd (v21 + 1) (fun v28 => (s47 v26 v27 v28 m25))) (fun k82_ => if v24 = 0 then (k82_ v19 v20) else (k82_ v13 v21))) else (k88_ v19 v20 m22))
def lb_Mo_findSteady_31 (v2 : Int32) (v4 : Int32) (k94_ : Int32 → Int32 → Me → Option Me) (s31 : Int32 → Int32 → Int32 → Me → Option Me) (v11 : Int32) (v12 : Int32) (v13 : Int32) (m14 : Me) : Option Me := if (6 : Int32) < v13 then (k94_ v11 v12 m14) else if v11 = (7 : Int32) then bd (fun (v15 : Int32) (v16 : Int32) (m17 : Me) => bd (v13 + 1) (fun v18 => (s31 v15 v16 v18 m17))) (fun k88_ => ((fx (lb_Mo_findSteady_47 v2 v4 v13 k88_) (fun _ _ _ _ => none) FU) v11 v12 (0 : Int32) m14)) else (k94_ v11 v12 m14)
def lb_Mo_findSteady_6  (s6 : Int32 → Me → Option Me) (v2 : Int32) (m3 : Me) : Option Me := if (m3.1 200 1) ≤ v2 then some m3 else rd (ln 220) v2 (m3.1 220) (fun v4 => bd (fun (v5 : Int32) (v6 : Int32) (m7 : Me) => wi m7 221 (ln 221) v4 v5 (fun m8 => wi m8 222 (ln 222) v4 v6 (fun m9 => bd (v2 + 1) (fun v10 => (s6 v10 m9))))) (fun k94_ => ((fx (lb_Mo_findSteady_31 v2 v4 k94_) (fun _ _ _ _ => none) FU) (7 : Int32) (16 : Int32) (0 : Int32) m3)))
def f_Mo_findSteady  (m : Me) : Option Me := cP (f_Mo_findOrder m) (fun m1 => ((fx (lb_Mo_findSteady_6) (fun _ _ => none) FU) (0 : Int32) m1))
set_option maxHeartbeats 4000000 in
set_option maxRecDepth 100000 in
theorem c_Mo_findSteady   (m : Me) (r : Me) (h : f_Mo_findSteady  m = some r) : Ct yX8_findSteady cX8_findSteady 7 none 5 (fun ad => [.ref (ad 200)]) m (fun ad => (none, r)) := by
  refine mk_ct (F := f_Mo_findSteady  m) (fun _ => oV) r h (fun _ => rfl) (by decide) (fun _ => Nat.le_of_ble_eq_true rfl) ?_
  intro X hX hE
  show J X oV (f_Mo_findSteady  m) m 0 [(0, rX X 200)] []
  unfold f_Mo_findSteady
  refine r_aload_n (pc := 0) hX 0 dX8_findSteady_0 rfl rfl ?_
  refine r_cvV (st := []) (pc := 1) hX dX8_findSteady_1 MI_Mo_findOrder MV_Mo_findOrder lkX8_249 k200 (c_Mo_findOrder m) rfl rfl (Nat.le_of_ble_eq_true rfl) (by decide) (fun m1 => ?_)
  refine r_iconst (pc := 4) hX dX8_findSteady_4 ic_0 ?_
  refine r_istore_n (L' := [(1, .int (0 : Int32)), (0, rX X 200)]) (pc := 5) hX dX8_findSteady_5 rfl (by decide) rfl ?_
  have hl6 : ∀ n : Nat, ∀ (v2 : Int32) (m3 : Me), J X oV (fx (lb_Mo_findSteady_6) (fun _ _ => none) n v2 m3) m3 6 [(0, rX X 200), (1, .int v2)] [] := by
    refine fx_ind (fun (f : Int32 → Me → Option Me) => ∀ (v2 : Int32) (m3 : Me), J X oV (f v2 m3) m3 6 [(0, rX X 200), (1, .int v2)] []) (fun _ _ => r_none) ?_
    intro s6 hs6 v2 m3
    unfold lb_Mo_findSteady_6
    refine r_iload_n (pc := 6) hX 1 dX8_findSteady_6 rfl rfl ?_
    refine r_aload_n (pc := 7) hX 0 dX8_findSteady_7 rfl rfl ?_
    refine r_getI (pc := 8) hX dX8_findSteady_8 fp8_88 k200 (by decide) ?_
    refine r_icmp_ge (tgt := 115) (pc := 11) hX dX8_findSteady_11 (by decide) ?_ ?_
    · skip
      exact r_vret (pc := 115) hX hE dX8_findSteady_115
    · skip
      refine r_aload_n (pc := 14) hX 0 dX8_findSteady_14 rfl rfl ?_
      refine r_getR (pc := 15) hX dX8_findSteady_15 fp8_69 k200 rfl g200_35 ?_
      refine r_iload_n (pc := 18) hX 1 dX8_findSteady_18 rfl rfl ?_
      refine r_iald (pc := 19) hX dX8_findSteady_19 k220 (fun v4 => ?_)
      refine r_istore_n (L' := [(2, .int v4), (0, rX X 200), (1, .int v2)]) (pc := 20) hX dX8_findSteady_20 rfl (by decide) rfl ?_
      refine r_bipush (pc := 21) hX dX8_findSteady_21 bp_7 ?_
      refine r_istore_n (L' := [(3, .int (7 : Int32)), (2, .int v4), (0, rX X 200), (1, .int v2)]) (pc := 23) hX dX8_findSteady_23 rfl (by decide) rfl ?_
      refine r_bipush (pc := 24) hX dX8_findSteady_24 bp_16 ?_
      refine r_istore (L' := [(4, .int (16 : Int32)), (3, .int (7 : Int32)), (2, .int v4), (0, rX X 200), (1, .int v2)]) (pc := 26) hX dX8_findSteady_26 (by decide) rfl ?_
      refine r_iconst (pc := 28) hX dX8_findSteady_28 ic_0 ?_
      refine r_istore (L' := [(5, .int (0 : Int32)), (4, .int (16 : Int32)), (3, .int (7 : Int32)), (2, .int v4), (0, rX X 200), (1, .int v2)]) (pc := 29) hX dX8_findSteady_29 (by decide) rfl ?_
      refine r_join (P := fun k => ∀ (v5 : Int32) (v6 : Int32) (m7 : Me), J X oV (k v5 v6 m7) m7 94 [(0, rX X 200), (1, .int v2), (2, .int v4), (3, .int v5), (4, .int v6)] []) ?_ ?_
      · intro v5 v6 m7
        refine r_aload_n (pc := 94) hX 0 dX8_findSteady_94 rfl rfl ?_
        refine r_getR (pc := 95) hX dX8_findSteady_95 fp8_72 k200 rfl g200_36 ?_
        refine r_iload_n (pc := 98) hX 2 dX8_findSteady_98 rfl rfl ?_
        refine r_iload_n (pc := 99) hX 3 dX8_findSteady_99 rfl rfl ?_
        refine r_iast (pc := 100) hX dX8_findSteady_100 k221 (fun m8 => ?_)
        refine r_aload_n (pc := 101) hX 0 dX8_findSteady_101 rfl rfl ?_
        refine r_getR (pc := 102) hX dX8_findSteady_102 fp8_75 k200 rfl g200_37 ?_
        refine r_iload_n (pc := 105) hX 2 dX8_findSteady_105 rfl rfl ?_
        refine r_iload (pc := 106) hX 4 dX8_findSteady_106 rfl ?_
        refine r_iast (pc := 108) hX dX8_findSteady_108 k222 (fun m9 => ?_)
        refine r_iincN (L' := fun w => [(1, .int w), (0, rX X 200), (2, .int v4), (3, .int v5), (4, .int v6)]) (pc := 109) hX 1 dX8_findSteady_109 rfl rfl (by decide) (fun _ => rfl) (fun v10 => ?_)
        refine r_goto (tgt := 6) (pc := 112) hX dX8_findSteady_112 (by decide) ?_
        exact r_sub [1, 0] rfl (hs6 v10 m9)
      intro k94_ hk94_
      have hl31 : ∀ n : Nat, ∀ (v11 : Int32) (v12 : Int32) (v13 : Int32) (m14 : Me), J X oV (fx (lb_Mo_findSteady_31 v2 v4 k94_) (fun _ _ _ _ => none) n v11 v12 v13 m14) m14 31 [(0, rX X 200), (1, .int v2), (2, .int v4), (3, .int v11), (4, .int v12), (5, .int v13)] [] := by
        refine fx_ind (fun (f : Int32 → Int32 → Int32 → Me → Option Me) => ∀ (v11 : Int32) (v12 : Int32) (v13 : Int32) (m14 : Me), J X oV (f v11 v12 v13 m14) m14 31 [(0, rX X 200), (1, .int v2), (2, .int v4), (3, .int v11), (4, .int v12), (5, .int v13)] []) (fun _ _ _ _ => r_none) ?_
        intro s31 hs31 v11 v12 v13 m14
        unfold lb_Mo_findSteady_31
        refine r_iload (pc := 31) hX 5 dX8_findSteady_31 rfl ?_
        refine r_bipush (pc := 33) hX dX8_findSteady_33 bp_6 ?_
        refine r_icmp_gt (tgt := 94) (pc := 35) hX dX8_findSteady_35 (by decide) ?_ ?_
        · skip
          exact r_sub [0, 1, 2, 3, 4] rfl (hk94_ v11 v12 m14)
        · skip
          refine r_iload_n (pc := 38) hX 3 dX8_findSteady_38 rfl rfl ?_
          refine r_bipush (pc := 39) hX dX8_findSteady_39 bp_7 ?_
          refine r_icmp_ne (tgt := 94) (pc := 41) hX dX8_findSteady_41 (by decide) ?_ ?_
          · skip
            exact r_sub [0, 1, 2, 3, 4] rfl (hk94_ v11 v12 m14)
          · skip
            refine r_iconst (pc := 44) hX dX8_findSteady_44 ic_0 ?_
            refine r_istore (L' := [(6, .int (0 : Int32)), (0, rX X 200), (1, .int v2), (2, .int v4), (3, .int v11), (4, .int v12), (5, .int v13)]) (pc := 45) hX dX8_findSteady_45 (by decide) rfl ?_
            refine r_join (P := fun k => ∀ (v15 : Int32) (v16 : Int32) (m17 : Me), J X oV (k v15 v16 m17) m17 88 [(0, rX X 200), (1, .int v2), (2, .int v4), (3, .int v15), (4, .int v16), (5, .int v13)] []) ?_ ?_
            · intro v15 v16 m17
              refine r_iincN (L' := fun w => [(5, .int w), (0, rX X 200), (1, .int v2), (2, .int v4), (3, .int v15), (4, .int v16)]) (pc := 88) hX 5 dX8_findSteady_88 rfl rfl (by decide) (fun _ => rfl) (fun v18 => ?_)
              refine r_goto (tgt := 31) (pc := 91) hX dX8_findSteady_91 (by decide) ?_
              exact r_sub [1, 2, 3, 4, 5, 0] rfl (hs31 v15 v16 v18 m17)
            intro k88_ hk88_
            have hl47 : ∀ n : Nat, ∀ (v19 : Int32) (v20 : Int32) (v21 : Int32) (m22 : Me), J X oV (fx (lb_Mo_findSteady_47 v2 v4 v13 k88_) (fun _ _ _ _ => none) n v19 v20 v21 m22) m22 47 [(0, rX X 200), (1, .int v2), (2, .int v4), (3, .int v19), (4, .int v20), (5, .int v13), (6, .int v21)] [] := by
              refine fx_ind (fun (f : Int32 → Int32 → Int32 → Me → Option Me) => ∀ (v19 : Int32) (v20 : Int32) (v21 : Int32) (m22 : Me), J X oV (f v19 v20 v21 m22) m22 47 [(0, rX X 200), (1, .int v2), (2, .int v4), (3, .int v19), (4, .int v20), (5, .int v13), (6, .int v21)] []) (fun _ _ _ _ => r_none) ?_
              intro s47 hs47 v19 v20 v21 m22
              unfold lb_Mo_findSteady_47
              refine r_iload (pc := 47) hX 6 dX8_findSteady_47 rfl ?_
              refine r_aload_n (pc := 49) hX 0 dX8_findSteady_49 rfl rfl ?_
              refine r_iload_n (pc := 50) hX 2 dX8_findSteady_50 rfl rfl ?_
              refine r_cvP (st := [.int v21]) (pc := 51) hX dX8_findSteady_51 MI_Mo_ways MV_Mo_ways lkX8_190 k200 (c_Mo_ways v4 m22) rfl rfl (Nat.le_of_ble_eq_true rfl) (by decide) (fun v23 => ?_)
              refine r_icmp_ge (tgt := 88) (pc := 54) hX dX8_findSteady_54 (by decide) ?_ ?_
              · skip
                exact r_sub [0, 1, 2, 3, 4, 5] rfl (hk88_ v19 v20 m22)
              · skip
                refine r_iload_n (pc := 57) hX 3 dX8_findSteady_57 rfl rfl ?_
                refine r_bipush (pc := 58) hX dX8_findSteady_58 bp_7 ?_
                refine r_icmp_ne (tgt := 88) (pc := 60) hX dX8_findSteady_60 (by decide) ?_ ?_
                · skip
                  exact r_sub [0, 1, 2, 3, 4, 5] rfl (hk88_ v19 v20 m22)
                · skip
                  refine r_aload_n (pc := 63) hX 0 dX8_findSteady_63 rfl rfl ?_
                  refine r_iload_n (pc := 64) hX 1 dX8_findSteady_64 rfl rfl ?_
                  refine r_iload (pc := 65) hX 6 dX8_findSteady_65 rfl ?_
                  refine r_iload (pc := 67) hX 5 dX8_findSteady_67 rfl ?_
                  refine r_cvI (st := []) (pc := 69) hX dX8_findSteady_69 MI_Mo_isSteady MV_Mo_isSteady lkX8_252 k200 (c_Mo_isSteady v2 v21 v13 m22) rfl rfl (Nat.le_of_ble_eq_true rfl) (by decide) (fun v24 m25 => ?_)
                  refine r_join (P := fun k => ∀ (v26 : Int32) (v27 : Int32), J X oV (k v26 v27) m25 82 [(0, rX X 200), (1, .int v2), (2, .int v4), (3, .int v26), (4, .int v27), (5, .int v13), (6, .int v21)] []) ?_ ?_
                  · intro v26 v27
                    refine r_iincN (L' := fun w => [(6, .int w), (0, rX X 200), (1, .int v2), (2, .int v4), (3, .int v26), (4, .int v27), (5, .int v13)]) (pc := 82) hX 6 dX8_findSteady_82 rfl rfl (by decide) (fun _ => rfl) (fun v28 => ?_)
                    refine r_goto (tgt := 47) (pc := 85) hX dX8_findSteady_85 (by decide) ?_
                    exact r_sub [1, 2, 3, 4, 5, 6, 0] rfl (hs47 v26 v27 v28 m25)
                  intro k82_ hk82_
                  refine r_if_eq (tgt := 82) (pc := 72) hX dX8_findSteady_72 (by decide) ?_ ?_
                  · skip
                    exact hk82_ v19 v20
                  · skip
                    refine r_iload (pc := 75) hX 5 dX8_findSteady_75 rfl ?_
                    refine r_istore_n (L' := [(3, .int v13), (0, rX X 200), (1, .int v2), (2, .int v4), (4, .int v20), (5, .int v13), (6, .int v21)]) (pc := 77) hX dX8_findSteady_77 rfl (by decide) rfl ?_
                    refine r_iload (pc := 78) hX 6 dX8_findSteady_78 rfl ?_
                    refine r_istore (L' := [(4, .int v21), (3, .int v13), (0, rX X 200), (1, .int v2), (2, .int v4), (5, .int v13), (6, .int v21)]) (pc := 80) hX dX8_findSteady_80 (by decide) rfl ?_
                    exact r_sub [2, 3, 4, 1, 0, 5, 6] rfl (hk82_ v13 v21)
            exact r_sub [1, 2, 3, 4, 5, 6, 0] rfl (hl47 FU v11 v12 (0 : Int32) m14)
      exact r_sub [4, 5, 3, 2, 1, 0] rfl (hl31 FU (7 : Int32) (16 : Int32) (0 : Int32) m3)
  exact r_sub [1, 0] rfl (hl6 FU (0 : Int32) m1)
def f_Mo_steady (a0 : Int32) (a1 : Int32) (m : Me) : Option (Int32 × Me) := bd (si m 200 0 (0 : Int32)) (fun m1 => cP (f_Mo_isName a0 m1) (fun v2 => if v2 = 0 then some ((-3 : Int32), m1) else cP (f_Mo_in a1 (0 : Int32) (1 : Int32) m1) (fun v3 => if v3 = 0 then some ((-3 : Int32), m1) else cP (f_Mo_findSteady m1) (fun m4 => rd (ln 221) a0 (m4.1 221) (fun v5 => if v5 = (7 : Int32) then some ((-1 : Int32), m4) else if a1 = 0 then rd (ln 221) a0 (m4.1 221) (fun v7 => some (v7, m4)) else rd (ln 222) a0 (m4.1 222) (fun v6 => some (v6, m4)))))))
set_option maxHeartbeats 4000000 in
set_option maxRecDepth 100000 in
theorem c_Mo_steady (a0 : Int32) (a1 : Int32)  (m : Me) (r : Int32) (m' : Me) (h : f_Mo_steady a0 a1 m = some (r, m')) : Ct yX8_steady cX8_steady 3 (some .int) 6 (fun ad => [.ref (ad 200), .int a0, .int a1]) m (fun ad => (some (.int r), m')) := by
  refine mk_ct (F := f_Mo_steady a0 a1 m) (fun _ => oI) (r, m') h (fun _ => rfl) (by decide) (fun _ => Nat.le_of_ble_eq_true rfl) ?_
  intro X hX hE
  show J X oI (f_Mo_steady a0 a1 m) m 0 [(0, rX X 200), (1, .int a0), (2, .int a1)] []
  unfold f_Mo_steady
  refine r_aload_n (pc := 0) hX 0 dX8_steady_0 rfl rfl ?_
  refine r_iconst (pc := 1) hX dX8_steady_1 ic_0 ?_
  refine r_putI (pc := 2) hX dX8_steady_2 fp8_78 k200 (fun m1 => ?_)
  refine r_aload_n (pc := 5) hX 0 dX8_steady_5 rfl rfl ?_
  refine r_iload_n (pc := 6) hX 1 dX8_steady_6 rfl rfl ?_
  refine r_cvP (st := []) (pc := 7) hX dX8_steady_7 MI_Mo_isName MV_Mo_isName lkX8_115 k200 (c_Mo_isName a0 m1) rfl rfl (Nat.le_of_ble_eq_true rfl) (by decide) (fun v2 => ?_)
  refine r_if_eq (tgt := 22) (pc := 10) hX dX8_steady_10 (by decide) ?_ ?_
  · skip
    refine r_bipush (pc := 22) hX dX8_steady_22 bp_m3 ?_
    exact r_iretI (pc := 24) hX hE dX8_steady_24
  · skip
    refine r_iload_n (pc := 13) hX 2 dX8_steady_13 rfl rfl ?_
    refine r_iconst (pc := 14) hX dX8_steady_14 ic_0 ?_
    refine r_iconst (pc := 15) hX dX8_steady_15 ic_1 ?_
    refine r_csP (st := []) (pc := 16) hX dX8_steady_16 MI_Mo_in MS_Mo_in lkX8_104 (c_Mo_in a1 (0 : Int32) (1 : Int32) m1) rfl rfl (Nat.le_of_ble_eq_true rfl) (by decide) (fun v3 => ?_)
    refine r_if_ne (tgt := 25) (pc := 19) hX dX8_steady_19 (by decide) ?_ ?_
    · skip
      refine r_aload_n (pc := 25) hX 0 dX8_steady_25 rfl rfl ?_
      refine r_cvV (st := []) (pc := 26) hX dX8_steady_26 MI_Mo_findSteady MV_Mo_findSteady lkX8_255 k200 (c_Mo_findSteady m1) rfl rfl (Nat.le_of_ble_eq_true rfl) (by decide) (fun m4 => ?_)
      refine r_aload_n (pc := 29) hX 0 dX8_steady_29 rfl rfl ?_
      refine r_getR (pc := 30) hX dX8_steady_30 fp8_72 k200 rfl g200_36 ?_
      refine r_iload_n (pc := 33) hX 1 dX8_steady_33 rfl rfl ?_
      refine r_iald (pc := 34) hX dX8_steady_34 k221 (fun v5 => ?_)
      refine r_bipush (pc := 35) hX dX8_steady_35 bp_7 ?_
      refine r_icmp_ne (tgt := 44) (pc := 37) hX dX8_steady_37 (by decide) ?_ ?_
      · skip
        refine r_iload_n (pc := 44) hX 2 dX8_steady_44 rfl rfl ?_
        refine r_if_ne (tgt := 57) (pc := 45) hX dX8_steady_45 (by decide) ?_ ?_
        · skip
          refine r_aload_n (pc := 57) hX 0 dX8_steady_57 rfl rfl ?_
          refine r_getR (pc := 58) hX dX8_steady_58 fp8_75 k200 rfl g200_37 ?_
          refine r_iload_n (pc := 61) hX 1 dX8_steady_61 rfl rfl ?_
          refine r_iald (pc := 62) hX dX8_steady_62 k222 (fun v6 => ?_)
          exact r_iretI (pc := 63) hX hE dX8_steady_63
        · skip
          refine r_aload_n (pc := 48) hX 0 dX8_steady_48 rfl rfl ?_
          refine r_getR (pc := 49) hX dX8_steady_49 fp8_72 k200 rfl g200_36 ?_
          refine r_iload_n (pc := 52) hX 1 dX8_steady_52 rfl rfl ?_
          refine r_iald (pc := 53) hX dX8_steady_53 k221 (fun v7 => ?_)
          refine r_goto (tgt := 63) (pc := 54) hX dX8_steady_54 (by decide) ?_
          exact r_iretI (pc := 63) hX hE dX8_steady_63
      · skip
        refine r_iconst (pc := 40) hX dX8_steady_40 ic_m1 ?_
        refine r_goto (tgt := 63) (pc := 41) hX dX8_steady_41 (by decide) ?_
        exact r_iretI (pc := 63) hX hE dX8_steady_63
    · skip
      refine r_bipush (pc := 22) hX dX8_steady_22 bp_m3 ?_
      exact r_iretI (pc := 24) hX hE dX8_steady_24
def lb_Mo_there_26 (a0 : Int32) (m3 : Me) (s26 : Int32 → Int32 → Option (Int32 × Me)) (v4 : Int32) (v5 : Int32) : Option (Int32 × Me) := if (m3.1 200 1) ≤ v5 then some (v4, m3) else rd (ln 221) v5 (m3.1 221) (fun v6 => bd (fun (v7 : Int32) => bd ((v4 + v7)) (fun v8 => bd (v5 + 1) (fun v9 => (s26 v8 v9)))) (fun k50_ => if a0 < v6 then (k50_ (0 : Int32)) else (k50_ (1 : Int32))))
def f_Mo_there (a0 : Int32) (m : Me) : Option (Int32 × Me) := bd (si m 200 0 (0 : Int32)) (fun m1 => cP (f_Mo_in a0 (0 : Int32) (6 : Int32) m1) (fun v2 => if v2 = 0 then some ((-3 : Int32), m1) else cP (f_Mo_findSteady m1) (fun m3 => ((fx (lb_Mo_there_26 a0 m3) (fun _ _ => none) FU) (0 : Int32) (0 : Int32)))))
set_option maxHeartbeats 4000000 in
set_option maxRecDepth 100000 in
theorem c_Mo_there (a0 : Int32)  (m : Me) (r : Int32) (m' : Me) (h : f_Mo_there a0 m = some (r, m')) : Ct yX8_there cX8_there 4 (some .int) 6 (fun ad => [.ref (ad 200), .int a0]) m (fun ad => (some (.int r), m')) := by
  refine mk_ct (F := f_Mo_there a0 m) (fun _ => oI) (r, m') h (fun _ => rfl) (by decide) (fun _ => Nat.le_of_ble_eq_true rfl) ?_
  intro X hX hE
  show J X oI (f_Mo_there a0 m) m 0 [(0, rX X 200), (1, .int a0)] []
  unfold f_Mo_there
  refine r_aload_n (pc := 0) hX 0 dX8_there_0 rfl rfl ?_
  refine r_iconst (pc := 1) hX dX8_there_1 ic_0 ?_
  refine r_putI (pc := 2) hX dX8_there_2 fp8_78 k200 (fun m1 => ?_)
  refine r_iload_n (pc := 5) hX 1 dX8_there_5 rfl rfl ?_
  refine r_iconst (pc := 6) hX dX8_there_6 ic_0 ?_
  refine r_bipush (pc := 7) hX dX8_there_7 bp_6 ?_
  refine r_csP (st := []) (pc := 9) hX dX8_there_9 MI_Mo_in MS_Mo_in lkX8_104 (c_Mo_in a0 (0 : Int32) (6 : Int32) m1) rfl rfl (Nat.le_of_ble_eq_true rfl) (by decide) (fun v2 => ?_)
  refine r_if_ne (tgt := 18) (pc := 12) hX dX8_there_12 (by decide) ?_ ?_
  · skip
    refine r_aload_n (pc := 18) hX 0 dX8_there_18 rfl rfl ?_
    refine r_cvV (st := []) (pc := 19) hX dX8_there_19 MI_Mo_findSteady MV_Mo_findSteady lkX8_255 k200 (c_Mo_findSteady m1) rfl rfl (Nat.le_of_ble_eq_true rfl) (by decide) (fun m3 => ?_)
    refine r_iconst (pc := 22) hX dX8_there_22 ic_0 ?_
    refine r_istore_n (L' := [(2, .int (0 : Int32)), (0, rX X 200), (1, .int a0)]) (pc := 23) hX dX8_there_23 rfl (by decide) rfl ?_
    refine r_iconst (pc := 24) hX dX8_there_24 ic_0 ?_
    refine r_istore_n (L' := [(3, .int (0 : Int32)), (2, .int (0 : Int32)), (0, rX X 200), (1, .int a0)]) (pc := 25) hX dX8_there_25 rfl (by decide) rfl ?_
    have hl26 : ∀ n : Nat, ∀ (v4 : Int32) (v5 : Int32), J X oI (fx (lb_Mo_there_26 a0 m3) (fun _ _ => none) n v4 v5) m3 26 [(0, rX X 200), (1, .int a0), (2, .int v4), (3, .int v5)] [] := by
      refine fx_ind (fun (f : Int32 → Int32 → Option (Int32 × Me)) => ∀ (v4 : Int32) (v5 : Int32), J X oI (f v4 v5) m3 26 [(0, rX X 200), (1, .int a0), (2, .int v4), (3, .int v5)] []) (fun _ _ => r_none) ?_
      intro s26 hs26 v4 v5
      unfold lb_Mo_there_26
      refine r_iload_n (pc := 26) hX 3 dX8_there_26 rfl rfl ?_
      refine r_aload_n (pc := 27) hX 0 dX8_there_27 rfl rfl ?_
      refine r_getI (pc := 28) hX dX8_there_28 fp8_88 k200 (by decide) ?_
      refine r_icmp_ge (tgt := 58) (pc := 31) hX dX8_there_31 (by decide) ?_ ?_
      · skip
        refine r_iload_n (pc := 58) hX 2 dX8_there_58 rfl rfl ?_
        exact r_iretI (pc := 59) hX hE dX8_there_59
      · skip
        refine r_iload_n (pc := 34) hX 2 dX8_there_34 rfl rfl ?_
        refine r_aload_n (pc := 35) hX 0 dX8_there_35 rfl rfl ?_
        refine r_getR (pc := 36) hX dX8_there_36 fp8_72 k200 rfl g200_36 ?_
        refine r_iload_n (pc := 39) hX 3 dX8_there_39 rfl rfl ?_
        refine r_iald (pc := 40) hX dX8_there_40 k221 (fun v6 => ?_)
        refine r_iload_n (pc := 41) hX 1 dX8_there_41 rfl rfl ?_
        refine r_join (P := fun k => ∀ (v7 : Int32), J X oI (k v7) m3 50 [(0, rX X 200), (1, .int a0), (3, .int v5)] [.int v7, .int v4]) ?_ ?_
        · intro v7
          refine r_iadd (pc := 50) hX dX8_there_50 ?_
          refine r_nmI (fun v8 => ?_)
          refine r_istore_n (L' := [(2, .int v8), (0, rX X 200), (1, .int a0), (3, .int v5)]) (pc := 51) hX dX8_there_51 rfl (by decide) rfl ?_
          refine r_iincN (L' := fun w => [(3, .int w), (2, .int v8), (0, rX X 200), (1, .int a0)]) (pc := 52) hX 3 dX8_there_52 rfl rfl (by decide) (fun _ => rfl) (fun v9 => ?_)
          refine r_goto (tgt := 26) (pc := 55) hX dX8_there_55 (by decide) ?_
          exact r_sub [2, 3, 1, 0] rfl (hs26 v8 v9)
        intro k50_ hk50_
        refine r_icmp_gt (tgt := 49) (pc := 42) hX dX8_there_42 (by decide) ?_ ?_
        · skip
          refine r_iconst (pc := 49) hX dX8_there_49 ic_0 ?_
          exact r_sub [0, 1, 3] rfl (hk50_ (0 : Int32))
        · skip
          refine r_iconst (pc := 45) hX dX8_there_45 ic_1 ?_
          refine r_goto (tgt := 50) (pc := 46) hX dX8_there_46 (by decide) ?_
          exact r_sub [0, 1, 3] rfl (hk50_ (1 : Int32))
    exact r_sub [2, 3, 1, 0] rfl (hl26 FU (0 : Int32) (0 : Int32))
  · skip
    refine r_bipush (pc := 15) hX dX8_there_15 bp_m3 ?_
    exact r_iretI (pc := 17) hX hE dX8_there_17
def lb_Mo_at_18 (a0 : Int32) (a1 : Int32) (s18 : Int32 → Me → Option (Int32 × Me)) (v3 : Int32) (m4 : Me) : Option (Int32 × Me) := if (m4.1 200 1) ≤ v3 then some ((-1 : Int32), m4) else rd (ln 207) v3 (m4.1 207) (fun v5 => bd (fun (m6 : Me) => bd (v3 + 1) (fun v7 => (s18 v7 m6))) (fun k60_ => if v5 = (16 : Int32) then (k60_ m4) else rd (ln 207) v3 (m4.1 207) (fun v8 => cP (f_Mo_box v3 v8 (0 : Int32) m4) (fun m9 => cP (f_Mo_covers a0 a1 m9) (fun v10 => if v10 = 0 then (k60_ m9) else some (v3, m9))))))
def f_Mo_at (a0 : Int32) (a1 : Int32) (m : Me) : Option (Int32 × Me) := bd (si m 200 0 (0 : Int32)) (fun m1 => cP (f_Mo_isPlace a0 a1 m1) (fun v2 => if v2 = 0 then some ((-3 : Int32), m1) else ((fx (lb_Mo_at_18 a0 a1) (fun _ _ => none) FU) (0 : Int32) m1)))
set_option maxHeartbeats 4000000 in
set_option maxRecDepth 100000 in
theorem c_Mo_at (a0 : Int32) (a1 : Int32)  (m : Me) (r : Int32) (m' : Me) (h : f_Mo_at a0 a1 m = some (r, m')) : Ct yX8_at cX8_at 4 (some .int) 2 (fun ad => [.ref (ad 200), .int a0, .int a1]) m (fun ad => (some (.int r), m')) := by
  refine mk_ct (F := f_Mo_at a0 a1 m) (fun _ => oI) (r, m') h (fun _ => rfl) (by decide) (fun _ => Nat.le_of_ble_eq_true rfl) ?_
  intro X hX hE
  show J X oI (f_Mo_at a0 a1 m) m 0 [(0, rX X 200), (1, .int a0), (2, .int a1)] []
  unfold f_Mo_at
  refine r_aload_n (pc := 0) hX 0 dX8_at_0 rfl rfl ?_
  refine r_iconst (pc := 1) hX dX8_at_1 ic_0 ?_
  refine r_putI (pc := 2) hX dX8_at_2 fp8_78 k200 (fun m1 => ?_)
  refine r_iload_n (pc := 5) hX 1 dX8_at_5 rfl rfl ?_
  refine r_iload_n (pc := 6) hX 2 dX8_at_6 rfl rfl ?_
  refine r_csP (st := []) (pc := 7) hX dX8_at_7 MI_Mo_isPlace MS_Mo_isPlace lkX8_108 (c_Mo_isPlace a0 a1 m1) rfl rfl (Nat.le_of_ble_eq_true rfl) (by decide) (fun v2 => ?_)
  refine r_if_ne (tgt := 16) (pc := 10) hX dX8_at_10 (by decide) ?_ ?_
  · skip
    refine r_iconst (pc := 16) hX dX8_at_16 ic_0 ?_
    refine r_istore_n (L' := [(3, .int (0 : Int32)), (0, rX X 200), (1, .int a0), (2, .int a1)]) (pc := 17) hX dX8_at_17 rfl (by decide) rfl ?_
    have hl18 : ∀ n : Nat, ∀ (v3 : Int32) (m4 : Me), J X oI (fx (lb_Mo_at_18 a0 a1) (fun _ _ => none) n v3 m4) m4 18 [(0, rX X 200), (1, .int a0), (2, .int a1), (3, .int v3)] [] := by
      refine fx_ind (fun (f : Int32 → Me → Option (Int32 × Me)) => ∀ (v3 : Int32) (m4 : Me), J X oI (f v3 m4) m4 18 [(0, rX X 200), (1, .int a0), (2, .int a1), (3, .int v3)] []) (fun _ _ => r_none) ?_
      intro s18 hs18 v3 m4
      unfold lb_Mo_at_18
      refine r_iload_n (pc := 18) hX 3 dX8_at_18 rfl rfl ?_
      refine r_aload_n (pc := 19) hX 0 dX8_at_19 rfl rfl ?_
      refine r_getI (pc := 20) hX dX8_at_20 fp8_88 k200 (by decide) ?_
      refine r_icmp_ge (tgt := 66) (pc := 23) hX dX8_at_23 (by decide) ?_ ?_
      · skip
        refine r_iconst (pc := 66) hX dX8_at_66 ic_m1 ?_
        exact r_iretI (pc := 67) hX hE dX8_at_67
      · skip
        refine r_aload_n (pc := 26) hX 0 dX8_at_26 rfl rfl ?_
        refine r_getR (pc := 27) hX dX8_at_27 fp8_28 k200 rfl g200_9 ?_
        refine r_iload_n (pc := 30) hX 3 dX8_at_30 rfl rfl ?_
        refine r_iald (pc := 31) hX dX8_at_31 k207 (fun v5 => ?_)
        refine r_bipush (pc := 32) hX dX8_at_32 bp_16 ?_
        refine r_join (P := fun k => ∀ (m6 : Me), J X oI (k m6) m6 60 [(0, rX X 200), (1, .int a0), (2, .int a1), (3, .int v3)] []) ?_ ?_
        · intro m6
          refine r_iincN (L' := fun w => [(3, .int w), (0, rX X 200), (1, .int a0), (2, .int a1)]) (pc := 60) hX 3 dX8_at_60 rfl rfl (by decide) (fun _ => rfl) (fun v7 => ?_)
          refine r_goto (tgt := 18) (pc := 63) hX dX8_at_63 (by decide) ?_
          exact r_sub [1, 2, 3, 0] rfl (hs18 v7 m6)
        intro k60_ hk60_
        refine r_icmp_eq (tgt := 60) (pc := 34) hX dX8_at_34 (by decide) ?_ ?_
        · skip
          exact hk60_ m4
        · skip
          refine r_aload_n (pc := 37) hX 0 dX8_at_37 rfl rfl ?_
          refine r_iload_n (pc := 38) hX 3 dX8_at_38 rfl rfl ?_
          refine r_aload_n (pc := 39) hX 0 dX8_at_39 rfl rfl ?_
          refine r_getR (pc := 40) hX dX8_at_40 fp8_28 k200 rfl g200_9 ?_
          refine r_iload_n (pc := 43) hX 3 dX8_at_43 rfl rfl ?_
          refine r_iald (pc := 44) hX dX8_at_44 k207 (fun v8 => ?_)
          refine r_iconst (pc := 45) hX dX8_at_45 ic_0 ?_
          refine r_cvV (st := []) (pc := 46) hX dX8_at_46 MI_Mo_box MV_Mo_box lkX8_134 k200 (c_Mo_box v3 v8 (0 : Int32) m4) rfl rfl (Nat.le_of_ble_eq_true rfl) (by decide) (fun m9 => ?_)
          refine r_aload_n (pc := 49) hX 0 dX8_at_49 rfl rfl ?_
          refine r_iload_n (pc := 50) hX 1 dX8_at_50 rfl rfl ?_
          refine r_iload_n (pc := 51) hX 2 dX8_at_51 rfl rfl ?_
          refine r_cvP (st := []) (pc := 52) hX dX8_at_52 MI_Mo_covers MV_Mo_covers lkX8_138 k200 (c_Mo_covers a0 a1 m9) rfl rfl (Nat.le_of_ble_eq_true rfl) (by decide) (fun v10 => ?_)
          refine r_if_eq (tgt := 60) (pc := 55) hX dX8_at_55 (by decide) ?_ ?_
          · skip
            exact hk60_ m9
          · skip
            refine r_iload_n (pc := 58) hX 3 dX8_at_58 rfl rfl ?_
            exact r_iretI (pc := 59) hX hE dX8_at_59
    exact r_sub [1, 2, 3, 0] rfl (hl18 FU (0 : Int32) m1)
  · skip
    refine r_bipush (pc := 13) hX dX8_at_13 bp_m3 ?_
    exact r_iretI (pc := 15) hX hE dX8_at_15
def lb_Mo_find_51 (a0 : Int32) (a1 : Int32) (a2 : Int32) (a3 : Int32) (s51 : Int32 → Int32 → Me → Option (Int32 × Me)) (v5 : Int32) (v6 : Int32) (m7 : Me) : Option (Int32 × Me) := if (m7.1 200 1) ≤ v6 then some ((-1 : Int32), m7) else rd (ln 207) v6 (m7.1 207) (fun v8 => bd (fun (v9 : Int32) (m10 : Me) => bd (v6 + 1) (fun v11 => (s51 v9 v11 m10))) (fun k144_ => if v8 = (16 : Int32) then (k144_ v5 m7) else rd (ln 207) v6 (m7.1 207) (fun v12 => cP (f_Mo_box v6 v12 (0 : Int32) m7) (fun m13 => if (a0 + a2) ≤ (m13.1 200 16) then (k144_ v5 m13) else if (((m13.1 200 16)) + ((m13.1 200 18))) ≤ a0 then (k144_ v5 m13) else if (a1 + a3) ≤ (m13.1 200 17) then (k144_ v5 m13) else if (((m13.1 200 17)) + ((m13.1 200 19))) ≤ a1 then (k144_ v5 m13) else if v5 = 0 then some (v6, m13) else bd (v5 + Int32.ofInt (-1)) (fun v14 => (k144_ v14 m13))))))
def f_Mo_find (a0 : Int32) (a1 : Int32) (a2 : Int32) (a3 : Int32) (a4 : Int32) (m : Me) : Option (Int32 × Me) := bd (si m 200 0 (0 : Int32)) (fun m1 => cP (f_Mo_isPlace a0 a1 m1) (fun v2 => if v2 = 0 then some ((-3 : Int32), m1) else cP (f_Mo_in a2 (1 : Int32) (1000 : Int32) m1) (fun v3 => if v3 = 0 then some ((-3 : Int32), m1) else cP (f_Mo_in a3 (1 : Int32) (1000 : Int32) m1) (fun v4 => if v4 = 0 then some ((-3 : Int32), m1) else if 0 ≤ a4 then ((fx (lb_Mo_find_51 a0 a1 a2 a3) (fun _ _ _ => none) FU) a4 (0 : Int32) m1) else some ((-3 : Int32), m1)))))
set_option maxHeartbeats 4000000 in
set_option maxRecDepth 100000 in
theorem c_Mo_find (a0 : Int32) (a1 : Int32) (a2 : Int32) (a3 : Int32) (a4 : Int32)  (m : Me) (r : Int32) (m' : Me) (h : f_Mo_find a0 a1 a2 a3 a4 m = some (r, m')) : Ct yX8_find cX8_find 8 (some .int) 2 (fun ad => [.ref (ad 200), .int a0, .int a1, .int a2, .int a3, .int a4]) m (fun ad => (some (.int r), m')) := by
  refine mk_ct (F := f_Mo_find a0 a1 a2 a3 a4 m) (fun _ => oI) (r, m') h (fun _ => rfl) (by decide) (fun _ => Nat.le_of_ble_eq_true rfl) ?_
  intro X hX hE
  show J X oI (f_Mo_find a0 a1 a2 a3 a4 m) m 0 [(0, rX X 200), (1, .int a0), (2, .int a1), (3, .int a2), (4, .int a3), (5, .int a4)] []
  unfold f_Mo_find
  refine r_aload_n (pc := 0) hX 0 dX8_find_0 rfl rfl ?_
  refine r_iconst (pc := 1) hX dX8_find_1 ic_0 ?_
  refine r_putI (pc := 2) hX dX8_find_2 fp8_78 k200 (fun m1 => ?_)
  refine r_iload_n (pc := 5) hX 1 dX8_find_5 rfl rfl ?_
  refine r_iload_n (pc := 6) hX 2 dX8_find_6 rfl rfl ?_
  refine r_csP (st := []) (pc := 7) hX dX8_find_7 MI_Mo_isPlace MS_Mo_isPlace lkX8_108 (c_Mo_isPlace a0 a1 m1) rfl rfl (Nat.le_of_ble_eq_true rfl) (by decide) (fun v2 => ?_)
  refine r_if_eq (tgt := 41) (pc := 10) hX dX8_find_10 (by decide) ?_ ?_
  · skip
    refine r_bipush (pc := 41) hX dX8_find_41 bp_m3 ?_
    exact r_iretI (pc := 43) hX hE dX8_find_43
  · skip
    refine r_iload_n (pc := 13) hX 3 dX8_find_13 rfl rfl ?_
    refine r_iconst (pc := 14) hX dX8_find_14 ic_1 ?_
    refine r_sipush (pc := 15) hX dX8_find_15 sp_1000 ?_
    refine r_csP (st := []) (pc := 18) hX dX8_find_18 MI_Mo_in MS_Mo_in lkX8_104 (c_Mo_in a2 (1 : Int32) (1000 : Int32) m1) rfl rfl (Nat.le_of_ble_eq_true rfl) (by decide) (fun v3 => ?_)
    refine r_if_eq (tgt := 41) (pc := 21) hX dX8_find_21 (by decide) ?_ ?_
    · skip
      refine r_bipush (pc := 41) hX dX8_find_41 bp_m3 ?_
      exact r_iretI (pc := 43) hX hE dX8_find_43
    · skip
      refine r_iload (pc := 24) hX 4 dX8_find_24 rfl ?_
      refine r_iconst (pc := 26) hX dX8_find_26 ic_1 ?_
      refine r_sipush (pc := 27) hX dX8_find_27 sp_1000 ?_
      refine r_csP (st := []) (pc := 30) hX dX8_find_30 MI_Mo_in MS_Mo_in lkX8_104 (c_Mo_in a3 (1 : Int32) (1000 : Int32) m1) rfl rfl (Nat.le_of_ble_eq_true rfl) (by decide) (fun v4 => ?_)
      refine r_if_eq (tgt := 41) (pc := 33) hX dX8_find_33 (by decide) ?_ ?_
      · skip
        refine r_bipush (pc := 41) hX dX8_find_41 bp_m3 ?_
        exact r_iretI (pc := 43) hX hE dX8_find_43
      · skip
        refine r_iload (pc := 36) hX 5 dX8_find_36 rfl ?_
        refine r_if_ge (tgt := 44) (pc := 38) hX dX8_find_38 (by decide) ?_ ?_
        · skip
          refine r_iload (pc := 44) hX 5 dX8_find_44 rfl ?_
          refine r_istore (L' := [(6, .int a4), (0, rX X 200), (1, .int a0), (2, .int a1), (3, .int a2), (4, .int a3), (5, .int a4)]) (pc := 46) hX dX8_find_46 (by decide) rfl ?_
          refine r_iconst (pc := 48) hX dX8_find_48 ic_0 ?_
          refine r_istore (L' := [(7, .int (0 : Int32)), (6, .int a4), (0, rX X 200), (1, .int a0), (2, .int a1), (3, .int a2), (4, .int a3), (5, .int a4)]) (pc := 49) hX dX8_find_49 (by decide) rfl ?_
          have hl51 : ∀ n : Nat, ∀ (v5 : Int32) (v6 : Int32) (m7 : Me), J X oI (fx (lb_Mo_find_51 a0 a1 a2 a3) (fun _ _ _ => none) n v5 v6 m7) m7 51 [(0, rX X 200), (1, .int a0), (2, .int a1), (3, .int a2), (4, .int a3), (6, .int v5), (7, .int v6)] [] := by
            refine fx_ind (fun (f : Int32 → Int32 → Me → Option (Int32 × Me)) => ∀ (v5 : Int32) (v6 : Int32) (m7 : Me), J X oI (f v5 v6 m7) m7 51 [(0, rX X 200), (1, .int a0), (2, .int a1), (3, .int a2), (4, .int a3), (6, .int v5), (7, .int v6)] []) (fun _ _ _ => r_none) ?_
            intro s51 hs51 v5 v6 m7
            unfold lb_Mo_find_51
            refine r_iload (pc := 51) hX 6 dX8_find_51 rfl ?_
            refine r_aload_n (pc := 53) hX 0 dX8_find_53 rfl rfl ?_
            refine r_getI (pc := 54) hX dX8_find_54 fp8_88 k200 (by decide) ?_
            refine r_icmp_ge (tgt := 150) (pc := 57) hX dX8_find_57 (by decide) ?_ ?_
            · skip
              refine r_iconst (pc := 150) hX dX8_find_150 ic_m1 ?_
              exact r_iretI (pc := 151) hX hE dX8_find_151
            · skip
              refine r_aload_n (pc := 60) hX 0 dX8_find_60 rfl rfl ?_
              refine r_getR (pc := 61) hX dX8_find_61 fp8_28 k200 rfl g200_9 ?_
              refine r_iload (pc := 64) hX 6 dX8_find_64 rfl ?_
              refine r_iald (pc := 66) hX dX8_find_66 k207 (fun v8 => ?_)
              refine r_bipush (pc := 67) hX dX8_find_67 bp_16 ?_
              refine r_join (P := fun k => ∀ (v9 : Int32) (m10 : Me), J X oI (k v9 m10) m10 144 [(0, rX X 200), (1, .int a0), (2, .int a1), (3, .int a2), (4, .int a3), (6, .int v9), (7, .int v6)] []) ?_ ?_
              · intro v9 m10
                refine r_iincN (L' := fun w => [(7, .int w), (0, rX X 200), (1, .int a0), (2, .int a1), (3, .int a2), (4, .int a3), (6, .int v9)]) (pc := 144) hX 6 dX8_find_144 rfl rfl (by decide) (fun _ => rfl) (fun v11 => ?_)
                refine r_goto (tgt := 51) (pc := 147) hX dX8_find_147 (by decide) ?_
                exact r_sub [1, 2, 3, 4, 5, 6, 0] rfl (hs51 v9 v11 m10)
              intro k144_ hk144_
              refine r_icmp_eq (tgt := 144) (pc := 69) hX dX8_find_69 (by decide) ?_ ?_
              · skip
                exact hk144_ v5 m7
              · skip
                refine r_aload_n (pc := 72) hX 0 dX8_find_72 rfl rfl ?_
                refine r_iload (pc := 73) hX 6 dX8_find_73 rfl ?_
                refine r_aload_n (pc := 75) hX 0 dX8_find_75 rfl rfl ?_
                refine r_getR (pc := 76) hX dX8_find_76 fp8_28 k200 rfl g200_9 ?_
                refine r_iload (pc := 79) hX 6 dX8_find_79 rfl ?_
                refine r_iald (pc := 81) hX dX8_find_81 k207 (fun v12 => ?_)
                refine r_iconst (pc := 82) hX dX8_find_82 ic_0 ?_
                refine r_cvV (st := []) (pc := 83) hX dX8_find_83 MI_Mo_box MV_Mo_box lkX8_134 k200 (c_Mo_box v6 v12 (0 : Int32) m7) rfl rfl (Nat.le_of_ble_eq_true rfl) (by decide) (fun m13 => ?_)
                refine r_aload_n (pc := 86) hX 0 dX8_find_86 rfl rfl ?_
                refine r_getI (pc := 87) hX dX8_find_87 fp8_122 k200 (by decide) ?_
                refine r_iload_n (pc := 90) hX 1 dX8_find_90 rfl rfl ?_
                refine r_iload_n (pc := 91) hX 3 dX8_find_91 rfl rfl ?_
                refine r_iadd (pc := 92) hX dX8_find_92 ?_
                refine r_icmp_ge (tgt := 144) (pc := 93) hX dX8_find_93 (by decide) ?_ ?_
                · skip
                  exact hk144_ v5 m13
                · skip
                  refine r_iload_n (pc := 96) hX 1 dX8_find_96 rfl rfl ?_
                  refine r_aload_n (pc := 97) hX 0 dX8_find_97 rfl rfl ?_
                  refine r_getI (pc := 98) hX dX8_find_98 fp8_122 k200 (by decide) ?_
                  refine r_aload_n (pc := 101) hX 0 dX8_find_101 rfl rfl ?_
                  refine r_getI (pc := 102) hX dX8_find_102 fp8_128 k200 (by decide) ?_
                  refine r_iadd (pc := 105) hX dX8_find_105 ?_
                  refine r_icmp_ge (tgt := 144) (pc := 106) hX dX8_find_106 (by decide) ?_ ?_
                  · skip
                    exact hk144_ v5 m13
                  · skip
                    refine r_aload_n (pc := 109) hX 0 dX8_find_109 rfl rfl ?_
                    refine r_getI (pc := 110) hX dX8_find_110 fp8_125 k200 (by decide) ?_
                    refine r_iload_n (pc := 113) hX 2 dX8_find_113 rfl rfl ?_
                    refine r_iload (pc := 114) hX 4 dX8_find_114 rfl ?_
                    refine r_iadd (pc := 116) hX dX8_find_116 ?_
                    refine r_icmp_ge (tgt := 144) (pc := 117) hX dX8_find_117 (by decide) ?_ ?_
                    · skip
                      exact hk144_ v5 m13
                    · skip
                      refine r_iload_n (pc := 120) hX 2 dX8_find_120 rfl rfl ?_
                      refine r_aload_n (pc := 121) hX 0 dX8_find_121 rfl rfl ?_
                      refine r_getI (pc := 122) hX dX8_find_122 fp8_125 k200 (by decide) ?_
                      refine r_aload_n (pc := 125) hX 0 dX8_find_125 rfl rfl ?_
                      refine r_getI (pc := 126) hX dX8_find_126 fp8_131 k200 (by decide) ?_
                      refine r_iadd (pc := 129) hX dX8_find_129 ?_
                      refine r_icmp_ge (tgt := 144) (pc := 130) hX dX8_find_130 (by decide) ?_ ?_
                      · skip
                        exact hk144_ v5 m13
                      · skip
                        refine r_iload (pc := 133) hX 5 dX8_find_133 rfl ?_
                        refine r_if_ne (tgt := 141) (pc := 135) hX dX8_find_135 (by decide) ?_ ?_
                        · skip
                          refine r_iincN (L' := fun w => [(6, .int w), (0, rX X 200), (1, .int a0), (2, .int a1), (3, .int a2), (4, .int a3), (7, .int v6)]) (pc := 141) hX 5 dX8_find_141 rfl rfl (by decide) (fun _ => rfl) (fun v14 => ?_)
                          exact r_sub [1, 2, 3, 4, 5, 0, 6] rfl (hk144_ v14 m13)
                        · skip
                          refine r_iload (pc := 138) hX 6 dX8_find_138 rfl ?_
                          exact r_iretI (pc := 140) hX hE dX8_find_140
          exact r_sub [2, 3, 4, 5, 6, 1, 0] rfl (hl51 FU a4 (0 : Int32) m1)
        · skip
          refine r_bipush (pc := 41) hX dX8_find_41 bp_m3 ?_
          exact r_iretI (pc := 43) hX hE dX8_find_43
def lb_Mo_count_60 (m1 : Me) (s60 : Int32 → Int32 → Option (Int32 × Me)) (v2 : Int32) (v3 : Int32) : Option (Int32 × Me) := if (m1.1 200 1) ≤ v3 then some (v2, m1) else rd (ln 207) v3 (m1.1 207) (fun v4 => bd (fun (v5 : Int32) => bd ((v2 + v5)) (fun v6 => bd (v3 + 1) (fun v7 => (s60 v6 v7)))) (fun k85_ => if v4 = (16 : Int32) then (k85_ (1 : Int32)) else (k85_ (0 : Int32))))
def lb_Mo_count_102 (m1 : Me) (s102 : Int32 → Int32 → Option (Int32 × Me)) (v8 : Int32) (v9 : Int32) : Option (Int32 × Me) := if (m1.1 200 1) ≤ v9 then some (v8, m1) else rd (ln 201) v9 (m1.1 201) (fun v10 => bd (fun (v11 : Int32) => bd ((v8 + v11)) (fun v12 => bd (v9 + 1) (fun v13 => (s102 v12 v13)))) (fun k126_ => if v10 = (3 : Int32) then (k126_ (1 : Int32)) else (k126_ (0 : Int32))))
def f_Mo_count (a0 : Int32) (m : Me) : Option (Int32 × Me) := bd (si m 200 0 (0 : Int32)) (fun m1 => if a0 = (0 : Int32) then some ((m1.1 200 1), m1) else if a0 = (1 : Int32) then some ((m1.1 200 2), m1) else if a0 = (2 : Int32) then ((fx (lb_Mo_count_60 m1) (fun _ _ => none) FU) (0 : Int32) (0 : Int32)) else if a0 = (3 : Int32) then some ((m1.1 200 14), m1) else if a0 = (4 : Int32) then ((fx (lb_Mo_count_102 m1) (fun _ _ => none) FU) (0 : Int32) (0 : Int32)) else if a0 = (5 : Int32) then cI (f_Mo_most m1) (fun v14 m15 => some (v14, m15)) else some ((-3 : Int32), m1))
set_option maxHeartbeats 4000000 in
set_option maxRecDepth 100000 in
theorem c_Mo_count (a0 : Int32)  (m : Me) (r : Int32) (m' : Me) (h : f_Mo_count a0 m = some (r, m')) : Ct yX8_count cX8_count 4 (some .int) 7 (fun ad => [.ref (ad 200), .int a0]) m (fun ad => (some (.int r), m')) := by
  refine mk_ct (F := f_Mo_count a0 m) (fun _ => oI) (r, m') h (fun _ => rfl) (by decide) (fun _ => Nat.le_of_ble_eq_true rfl) ?_
  intro X hX hE
  show J X oI (f_Mo_count a0 m) m 0 [(0, rX X 200), (1, .int a0)] []
  unfold f_Mo_count
  refine r_aload_n (pc := 0) hX 0 dX8_count_0 rfl rfl ?_
  refine r_iconst (pc := 1) hX dX8_count_1 ic_0 ?_
  refine r_putI (pc := 2) hX dX8_count_2 fp8_78 k200 (fun m1 => ?_)
  refine r_iconst (pc := 5) hX dX8_count_5 ic_0 ?_
  refine r_istore_n (L' := [(2, .int (0 : Int32)), (0, rX X 200), (1, .int a0)]) (pc := 6) hX dX8_count_6 rfl (by decide) rfl ?_
  refine r_iload_n (pc := 7) hX 2 dX8_count_7 rfl rfl ?_
  refine r_ite (fun hs0 => ?_) (fun hs0 => ?_)
  · refine r_swIn (tgt := 48) (pc := 8) hX dX8_count_8 (by rw [hs0]; decide) (by rw [hs0]; decide) (by rw [hs0]; rfl) (by decide) ?_
    refine r_aload_n (pc := 48) hX 1 dX8_count_48 rfl rfl ?_
    refine r_getI (pc := 49) hX dX8_count_49 fp8_88 k200 (by decide) ?_
    exact r_iretI (pc := 52) hX hE dX8_count_52
  refine r_ite (fun hs1 => ?_) (fun hs1 => ?_)
  · refine r_swIn (tgt := 53) (pc := 8) hX dX8_count_8 (by rw [hs1]; decide) (by rw [hs1]; decide) (by rw [hs1]; rfl) (by decide) ?_
    refine r_aload_n (pc := 53) hX 1 dX8_count_53 rfl rfl ?_
    refine r_getI (pc := 54) hX dX8_count_54 fp8_91 k200 (by decide) ?_
    exact r_iretI (pc := 57) hX hE dX8_count_57
  refine r_ite (fun hs2 => ?_) (fun hs2 => ?_)
  · refine r_swIn (tgt := 58) (pc := 8) hX dX8_count_8 (by rw [hs2]; decide) (by rw [hs2]; decide) (by rw [hs2]; rfl) (by decide) ?_
    refine r_iconst (pc := 58) hX dX8_count_58 ic_0 ?_
    refine r_istore_n (L' := [(3, .int (0 : Int32)), (2, .int (0 : Int32)), (0, rX X 200), (1, .int a0)]) (pc := 59) hX dX8_count_59 rfl (by decide) rfl ?_
    have hl60 : ∀ n : Nat, ∀ (v2 : Int32) (v3 : Int32), J X oI (fx (lb_Mo_count_60 m1) (fun _ _ => none) n v2 v3) m1 60 [(0, rX X 200), (2, .int v2), (3, .int v3)] [] := by
      refine fx_ind (fun (f : Int32 → Int32 → Option (Int32 × Me)) => ∀ (v2 : Int32) (v3 : Int32), J X oI (f v2 v3) m1 60 [(0, rX X 200), (2, .int v2), (3, .int v3)] []) (fun _ _ => r_none) ?_
      intro s60 hs60 v2 v3
      unfold lb_Mo_count_60
      refine r_iload_n (pc := 60) hX 2 dX8_count_60 rfl rfl ?_
      refine r_aload_n (pc := 61) hX 0 dX8_count_61 rfl rfl ?_
      refine r_getI (pc := 62) hX dX8_count_62 fp8_88 k200 (by decide) ?_
      refine r_icmp_ge (tgt := 93) (pc := 65) hX dX8_count_65 (by decide) ?_ ?_
      · skip
        refine r_iload_n (pc := 93) hX 1 dX8_count_93 rfl rfl ?_
        exact r_iretI (pc := 94) hX hE dX8_count_94
      · skip
        refine r_iload_n (pc := 68) hX 1 dX8_count_68 rfl rfl ?_
        refine r_aload_n (pc := 69) hX 0 dX8_count_69 rfl rfl ?_
        refine r_getR (pc := 70) hX dX8_count_70 fp8_28 k200 rfl g200_9 ?_
        refine r_iload_n (pc := 73) hX 2 dX8_count_73 rfl rfl ?_
        refine r_iald (pc := 74) hX dX8_count_74 k207 (fun v4 => ?_)
        refine r_bipush (pc := 75) hX dX8_count_75 bp_16 ?_
        refine r_join (P := fun k => ∀ (v5 : Int32), J X oI (k v5) m1 85 [(0, rX X 200), (3, .int v3)] [.int v5, .int v2]) ?_ ?_
        · intro v5
          refine r_iadd (pc := 85) hX dX8_count_85 ?_
          refine r_nmI (fun v6 => ?_)
          refine r_istore_n (L' := [(2, .int v6), (0, rX X 200), (3, .int v3)]) (pc := 86) hX dX8_count_86 rfl (by decide) rfl ?_
          refine r_iincN (L' := fun w => [(3, .int w), (2, .int v6), (0, rX X 200)]) (pc := 87) hX 2 dX8_count_87 rfl rfl (by decide) (fun _ => rfl) (fun v7 => ?_)
          refine r_goto (tgt := 60) (pc := 90) hX dX8_count_90 (by decide) ?_
          exact r_sub [2, 1, 0] rfl (hs60 v6 v7)
        intro k85_ hk85_
        refine r_icmp_ne (tgt := 84) (pc := 77) hX dX8_count_77 (by decide) ?_ ?_
        · skip
          refine r_iconst (pc := 84) hX dX8_count_84 ic_0 ?_
          exact r_sub [0, 2] rfl (hk85_ (0 : Int32))
        · skip
          refine r_iconst (pc := 80) hX dX8_count_80 ic_1 ?_
          refine r_goto (tgt := 85) (pc := 81) hX dX8_count_81 (by decide) ?_
          exact r_sub [0, 2] rfl (hk85_ (1 : Int32))
    exact r_sub [2, 1, 0] rfl (hl60 FU (0 : Int32) (0 : Int32))
  refine r_ite (fun hs3 => ?_) (fun hs3 => ?_)
  · refine r_swIn (tgt := 95) (pc := 8) hX dX8_count_8 (by rw [hs3]; decide) (by rw [hs3]; decide) (by rw [hs3]; rfl) (by decide) ?_
    refine r_aload_n (pc := 95) hX 1 dX8_count_95 rfl rfl ?_
    refine r_getI (pc := 96) hX dX8_count_96 fp8_98 k200 (by decide) ?_
    exact r_iretI (pc := 99) hX hE dX8_count_99
  refine r_ite (fun hs4 => ?_) (fun hs4 => ?_)
  · refine r_swIn (tgt := 100) (pc := 8) hX dX8_count_8 (by rw [hs4]; decide) (by rw [hs4]; decide) (by rw [hs4]; rfl) (by decide) ?_
    refine r_iconst (pc := 100) hX dX8_count_100 ic_0 ?_
    refine r_istore_n (L' := [(3, .int (0 : Int32)), (2, .int (0 : Int32)), (0, rX X 200), (1, .int a0)]) (pc := 101) hX dX8_count_101 rfl (by decide) rfl ?_
    have hl102 : ∀ n : Nat, ∀ (v8 : Int32) (v9 : Int32), J X oI (fx (lb_Mo_count_102 m1) (fun _ _ => none) n v8 v9) m1 102 [(0, rX X 200), (2, .int v8), (3, .int v9)] [] := by
      refine fx_ind (fun (f : Int32 → Int32 → Option (Int32 × Me)) => ∀ (v8 : Int32) (v9 : Int32), J X oI (f v8 v9) m1 102 [(0, rX X 200), (2, .int v8), (3, .int v9)] []) (fun _ _ => r_none) ?_
      intro s102 hs102 v8 v9
      unfold lb_Mo_count_102
      refine r_iload_n (pc := 102) hX 2 dX8_count_102 rfl rfl ?_
      refine r_aload_n (pc := 103) hX 0 dX8_count_103 rfl rfl ?_
      refine r_getI (pc := 104) hX dX8_count_104 fp8_88 k200 (by decide) ?_
      refine r_icmp_ge (tgt := 134) (pc := 107) hX dX8_count_107 (by decide) ?_ ?_
      · skip
        refine r_iload_n (pc := 134) hX 1 dX8_count_134 rfl rfl ?_
        exact r_iretI (pc := 135) hX hE dX8_count_135
      · skip
        refine r_iload_n (pc := 110) hX 1 dX8_count_110 rfl rfl ?_
        refine r_aload_n (pc := 111) hX 0 dX8_count_111 rfl rfl ?_
        refine r_getR (pc := 112) hX dX8_count_112 fp8_7 k200 rfl g200_3 ?_
        refine r_iload_n (pc := 115) hX 2 dX8_count_115 rfl rfl ?_
        refine r_iald (pc := 116) hX dX8_count_116 k201 (fun v10 => ?_)
        refine r_iconst (pc := 117) hX dX8_count_117 ic_3 ?_
        refine r_join (P := fun k => ∀ (v11 : Int32), J X oI (k v11) m1 126 [(0, rX X 200), (3, .int v9)] [.int v11, .int v8]) ?_ ?_
        · intro v11
          refine r_iadd (pc := 126) hX dX8_count_126 ?_
          refine r_nmI (fun v12 => ?_)
          refine r_istore_n (L' := [(2, .int v12), (0, rX X 200), (3, .int v9)]) (pc := 127) hX dX8_count_127 rfl (by decide) rfl ?_
          refine r_iincN (L' := fun w => [(3, .int w), (2, .int v12), (0, rX X 200)]) (pc := 128) hX 2 dX8_count_128 rfl rfl (by decide) (fun _ => rfl) (fun v13 => ?_)
          refine r_goto (tgt := 102) (pc := 131) hX dX8_count_131 (by decide) ?_
          exact r_sub [2, 1, 0] rfl (hs102 v12 v13)
        intro k126_ hk126_
        refine r_icmp_ne (tgt := 125) (pc := 118) hX dX8_count_118 (by decide) ?_ ?_
        · skip
          refine r_iconst (pc := 125) hX dX8_count_125 ic_0 ?_
          exact r_sub [0, 2] rfl (hk126_ (0 : Int32))
        · skip
          refine r_iconst (pc := 121) hX dX8_count_121 ic_1 ?_
          refine r_goto (tgt := 126) (pc := 122) hX dX8_count_122 (by decide) ?_
          exact r_sub [0, 2] rfl (hk126_ (1 : Int32))
    exact r_sub [2, 1, 0] rfl (hl102 FU (0 : Int32) (0 : Int32))
  refine r_ite (fun hs5 => ?_) (fun hs5 => ?_)
  · refine r_swIn (tgt := 136) (pc := 8) hX dX8_count_8 (by rw [hs5]; decide) (by rw [hs5]; decide) (by rw [hs5]; rfl) (by decide) ?_
    refine r_aload_n (pc := 136) hX 1 dX8_count_136 rfl rfl ?_
    refine r_cvI (st := []) (pc := 137) hX dX8_count_137 MI_Mo_most MV_Mo_most lkX8_240 k200 (c_Mo_most m1) rfl rfl (Nat.le_of_ble_eq_true rfl) (by decide) (fun v14 m15 => ?_)
    exact r_iretI (pc := 140) hX hE dX8_count_140
  refine r_swOut (tgt := 141) (pc := 8) hX dX8_count_8 (sw_def (n := 5) (by decide) (fun k hk => by rcases (show k = 0 ∨ k = 1 ∨ k = 2 ∨ k = 3 ∨ k = 4 ∨ k = 5 by omega) with rfl | rfl | rfl | rfl | rfl | rfl <;> first | exact hs0 | exact hs1 | exact hs2 | exact hs3 | exact hs4 | exact hs5)) (by decide) ?_
  refine r_bipush (pc := 141) hX dX8_count_141 bp_m3 ?_
  exact r_iretI (pc := 143) hX hE dX8_count_143
