def f_NC_within (a0 : Int32) (a1 : Int32) (a2 : Int32) (m : Me) : Option Int32 := if a0 < a1 then some (0 : Int32) else if a2 < a0 then some (0 : Int32) else some (1 : Int32)
set_option maxHeartbeats 4000000 in
set_option maxRecDepth 100000 in
theorem c_NC_within (a0 : Int32) (a1 : Int32) (a2 : Int32)  (m : Me) (r : Int32) (h : f_NC_within a0 a1 a2 m = some r) : Ct yX7_within cX7_within 3 (some .boolean) 0 (fun ad => [.int a0, .int a1, .int a2]) m (fun ad => (some (.int r), m)) := by
  refine mk_ct (F := f_NC_within a0 a1 a2 m) (fun _ => oP m) r h (fun _ => rfl) (by decide) (fun _ => Nat.le_of_ble_eq_true rfl) ?_
  intro X hX hE
  show J X (oP m) (f_NC_within a0 a1 a2 m) m 0 [(0, .int a0), (1, .int a1), (2, .int a2)] []
  unfold f_NC_within
  refine r_iload_n (pc := 0) hX 0 dX7_within_0 rfl rfl ?_
  refine r_iload_n (pc := 1) hX 1 dX7_within_1 rfl rfl ?_
  refine r_icmp_lt (tgt := 14) (pc := 2) hX dX7_within_2 (by decide) ?_ ?_
  · skip
    refine r_iconst (pc := 14) hX dX7_within_14 ic_0 ?_
    exact r_zretPk (pc := 15) hX hE dX7_within_15 (by decide)
  · skip
    refine r_iload_n (pc := 5) hX 0 dX7_within_5 rfl rfl ?_
    refine r_iload_n (pc := 6) hX 2 dX7_within_6 rfl rfl ?_
    refine r_icmp_gt (tgt := 14) (pc := 7) hX dX7_within_7 (by decide) ?_ ?_
    · skip
      refine r_iconst (pc := 14) hX dX7_within_14 ic_0 ?_
      exact r_zretPk (pc := 15) hX hE dX7_within_15 (by decide)
    · skip
      refine r_iconst (pc := 10) hX dX7_within_10 ic_1 ?_
      refine r_goto (tgt := 15) (pc := 11) hX dX7_within_11 (by decide) ?_
      exact r_zretPk (pc := 15) hX hE dX7_within_15 (by decide)
def f_NC_isKind (a0 : Int32) (m : Me) : Option Int32 := cP (f_NC_within a0 (0 : Int32) (3 : Int32) m) (fun v1 => zg v1 v1)
set_option maxHeartbeats 4000000 in
set_option maxRecDepth 100000 in
theorem c_NC_isKind (a0 : Int32)  (m : Me) (r : Int32) (h : f_NC_isKind a0 m = some r) : Ct yX7_isKind cX7_isKind 1 (some .boolean) 1 (fun ad => [.int a0]) m (fun ad => (some (.int r), m)) := by
  refine mk_ct (F := f_NC_isKind a0 m) (fun _ => oP m) r h (fun _ => rfl) (by decide) (fun _ => Nat.le_of_ble_eq_true rfl) ?_
  intro X hX hE
  show J X (oP m) (f_NC_isKind a0 m) m 0 [(0, .int a0)] []
  unfold f_NC_isKind
  refine r_iload_n (pc := 0) hX 0 dX7_isKind_0 rfl rfl ?_
  refine r_iconst (pc := 1) hX dX7_isKind_1 ic_0 ?_
  refine r_iconst (pc := 2) hX dX7_isKind_2 ic_3 ?_
  refine r_csP (st := []) (pc := 3) hX dX7_isKind_3 MI_NC_within MS_NC_within lkX7_103 (c_NC_within a0 (0 : Int32) (3 : Int32) m) rfl rfl (Nat.le_of_ble_eq_true rfl) (by decide) (fun v1 => ?_)
  exact r_zretP (pc := 6) hX hE dX7_isKind_6
def f_NC_isPlace (a0 : Int32) (a1 : Int32) (m : Me) : Option Int32 := cP (f_NC_within a0 (0 : Int32) (1000 : Int32) m) (fun v1 => if v1 = 0 then some (0 : Int32) else cP (f_NC_within a1 (0 : Int32) (1000 : Int32) m) (fun v2 => if v2 = 0 then some (0 : Int32) else some (1 : Int32)))
set_option maxHeartbeats 4000000 in
set_option maxRecDepth 100000 in
theorem c_NC_isPlace (a0 : Int32) (a1 : Int32)  (m : Me) (r : Int32) (h : f_NC_isPlace a0 a1 m = some r) : Ct yX7_isPlace cX7_isPlace 2 (some .boolean) 1 (fun ad => [.int a0, .int a1]) m (fun ad => (some (.int r), m)) := by
  refine mk_ct (F := f_NC_isPlace a0 a1 m) (fun _ => oP m) r h (fun _ => rfl) (by decide) (fun _ => Nat.le_of_ble_eq_true rfl) ?_
  intro X hX hE
  show J X (oP m) (f_NC_isPlace a0 a1 m) m 0 [(0, .int a0), (1, .int a1)] []
  unfold f_NC_isPlace
  refine r_iload_n (pc := 0) hX 0 dX7_isPlace_0 rfl rfl ?_
  refine r_iconst (pc := 1) hX dX7_isPlace_1 ic_0 ?_
  refine r_sipush (pc := 2) hX dX7_isPlace_2 sp_1000 ?_
  refine r_csP (st := []) (pc := 5) hX dX7_isPlace_5 MI_NC_within MS_NC_within lkX7_103 (c_NC_within a0 (0 : Int32) (1000 : Int32) m) rfl rfl (Nat.le_of_ble_eq_true rfl) (by decide) (fun v1 => ?_)
  refine r_if_eq (tgt := 26) (pc := 8) hX dX7_isPlace_8 (by decide) ?_ ?_
  · skip
    refine r_iconst (pc := 26) hX dX7_isPlace_26 ic_0 ?_
    exact r_zretPk (pc := 27) hX hE dX7_isPlace_27 (by decide)
  · skip
    refine r_iload_n (pc := 11) hX 1 dX7_isPlace_11 rfl rfl ?_
    refine r_iconst (pc := 12) hX dX7_isPlace_12 ic_0 ?_
    refine r_sipush (pc := 13) hX dX7_isPlace_13 sp_1000 ?_
    refine r_csP (st := []) (pc := 16) hX dX7_isPlace_16 MI_NC_within MS_NC_within lkX7_103 (c_NC_within a1 (0 : Int32) (1000 : Int32) m) rfl rfl (Nat.le_of_ble_eq_true rfl) (by decide) (fun v2 => ?_)
    refine r_if_eq (tgt := 26) (pc := 19) hX dX7_isPlace_19 (by decide) ?_ ?_
    · skip
      refine r_iconst (pc := 26) hX dX7_isPlace_26 ic_0 ?_
      exact r_zretPk (pc := 27) hX hE dX7_isPlace_27 (by decide)
    · skip
      refine r_iconst (pc := 22) hX dX7_isPlace_22 ic_1 ?_
      refine r_goto (tgt := 27) (pc := 23) hX dX7_isPlace_23 (by decide) ?_
      exact r_zretPk (pc := 27) hX hE dX7_isPlace_27 (by decide)
def f_NC_forgetDrawing  (m : Me) : Option Me := pz m 3 2 (0 : Int32) (fun m1 => pz m1 6 4 (0 : Int32) (fun m2 => pz m2 105 5 (0 : Int32) (fun m3 => some m3)))
set_option maxHeartbeats 4000000 in
set_option maxRecDepth 100000 in
theorem c_NC_forgetDrawing   (m : Me) (r : Me) (h : f_NC_forgetDrawing  m = some r) : Ct yX7_forgetDrawing cX7_forgetDrawing 1 none 0 (fun ad => [.ref (ad 0)]) m (fun ad => (none, r)) := by
  refine mk_ct (F := f_NC_forgetDrawing  m) (fun _ => oV) r h (fun _ => rfl) (by decide) (fun _ => Nat.le_of_ble_eq_true rfl) ?_
  intro X hX hE
  show J X oV (f_NC_forgetDrawing  m) m 0 [(0, rX X 0)] []
  unfold f_NC_forgetDrawing
  refine r_aload_n (pc := 0) hX 0 dX7_forgetDrawing_0 rfl rfl ?_
  refine r_getR (pc := 1) hX dX7_forgetDrawing_1 fp7_26 k0 rfl g0_2 ?_
  refine r_iconst (pc := 4) hX dX7_forgetDrawing_4 ic_0 ?_
  refine r_putZ (pc := 5) hX dX7_forgetDrawing_5 fp7_279 k3 (fun m1 => ?_)
  refine r_aload_n (pc := 8) hX 0 dX7_forgetDrawing_8 rfl rfl ?_
  refine r_getR (pc := 9) hX dX7_forgetDrawing_9 fp7_33 k0 rfl g0_3 ?_
  refine r_iconst (pc := 12) hX dX7_forgetDrawing_12 ic_0 ?_
  refine r_putZ (pc := 13) hX dX7_forgetDrawing_13 fp7_283 k6 (fun m2 => ?_)
  refine r_aload_n (pc := 16) hX 0 dX7_forgetDrawing_16 rfl rfl ?_
  refine r_getR (pc := 17) hX dX7_forgetDrawing_17 fp7_47 k0 rfl g0_5 ?_
  refine r_iconst (pc := 20) hX dX7_forgetDrawing_20 ic_0 ?_
  refine r_putZ (pc := 21) hX dX7_forgetDrawing_21 fp7_284 k105 (fun m3 => ?_)
  exact r_vret (pc := 24) hX hE dX7_forgetDrawing_24
def f_NC_redraw  (m : Me) : Option Me := cP (f_Hist_keep m) (fun m1 => cP (f_NC_forgetDrawing m1) (fun m2 => some m2))
set_option maxHeartbeats 4000000 in
set_option maxRecDepth 100000 in
theorem c_NC_redraw   (m : Me) (r : Me) (h : f_NC_redraw  m = some r) : Ct yX7_redraw cX7_redraw 1 none 3 (fun ad => [.ref (ad 0)]) m (fun ad => (none, r)) := by
  refine mk_ct (F := f_NC_redraw  m) (fun _ => oV) r h (fun _ => rfl) (by decide) (fun _ => Nat.le_of_ble_eq_true rfl) ?_
  intro X hX hE
  show J X oV (f_NC_redraw  m) m 0 [(0, rX X 0)] []
  unfold f_NC_redraw
  refine r_aload_n (pc := 0) hX 0 dX7_redraw_0 rfl rfl ?_
  refine r_getR (pc := 1) hX dX7_redraw_1 fp7_19 k0 rfl g0_1 ?_
  refine r_aload_n (pc := 4) hX 0 dX7_redraw_4 rfl rfl ?_
  refine r_getR (pc := 5) hX dX7_redraw_5 fp7_10 k0 rfl g0_0 ?_
  refine r_cvV (st := []) (pc := 8) hX dX7_redraw_8 MI_Hist_keep MV_Hist_keep lkX7_186 k1 (c_Hist_keep m) rfl rfl (Nat.le_of_ble_eq_true rfl) (by decide) (fun m1 => ?_)
  refine r_aload_n (pc := 11) hX 0 dX7_redraw_11 rfl rfl ?_
  refine r_cvV (st := []) (pc := 12) hX dX7_redraw_12 MI_NC_forgetDrawing MV_NC_forgetDrawing lkX7_273 k0 (c_NC_forgetDrawing m1) rfl rfl (Nat.le_of_ble_eq_true rfl) (by decide) (fun m2 => ?_)
  exact r_vret (pc := 15) hX hE dX7_redraw_15
def f_NC_name (a0 : Int32) (a1 : Int32) (a2 : Int32) (m : Me) : Option (Int32 × Me) := cP (f_NC_isKind a0 m) (fun v1 => if v1 = 0 then some ((-3 : Int32), m) else cP (f_NC_isPlace a1 a2 m) (fun v2 => if v2 = 0 then some ((-3 : Int32), m) else if (m.1 10 0) < (24 : Int32) then cP (f_NC_redraw m) (fun m3 => cI (f_Chart_addName a0 a1 a2 m3) (fun v4 m5 => some (v4, m5))) else some ((-5 : Int32), m)))
set_option maxHeartbeats 4000000 in
set_option maxRecDepth 100000 in
theorem c_NC_name (a0 : Int32) (a1 : Int32) (a2 : Int32)  (m : Me) (r : Int32) (m' : Me) (h : f_NC_name a0 a1 a2 m = some (r, m')) : Ct yX7_name cX7_name 4 (some .int) 4 (fun ad => [.ref (ad 0), .int a0, .int a1, .int a2]) m (fun ad => (some (.int r), m')) := by
  refine mk_ct (F := f_NC_name a0 a1 a2 m) (fun _ => oI) (r, m') h (fun _ => rfl) (by decide) (fun _ => Nat.le_of_ble_eq_true rfl) ?_
  intro X hX hE
  show J X oI (f_NC_name a0 a1 a2 m) m 0 [(0, rX X 0), (1, .int a0), (2, .int a1), (3, .int a2)] []
  unfold f_NC_name
  refine r_iload_n (pc := 0) hX 1 dX7_name_0 rfl rfl ?_
  refine r_csP (st := []) (pc := 1) hX dX7_name_1 MI_NC_isKind MS_NC_isKind lkX7_68 (c_NC_isKind a0 m) rfl rfl (Nat.le_of_ble_eq_true rfl) (by decide) (fun v1 => ?_)
  refine r_if_eq (tgt := 15) (pc := 4) hX dX7_name_4 (by decide) ?_ ?_
  · skip
    refine r_bipush (pc := 15) hX dX7_name_15 bp_m3 ?_
    exact r_iretI (pc := 17) hX hE dX7_name_17
  · skip
    refine r_iload_n (pc := 7) hX 2 dX7_name_7 rfl rfl ?_
    refine r_iload_n (pc := 8) hX 3 dX7_name_8 rfl rfl ?_
    refine r_csP (st := []) (pc := 9) hX dX7_name_9 MI_NC_isPlace MS_NC_isPlace lkX7_72 (c_NC_isPlace a1 a2 m) rfl rfl (Nat.le_of_ble_eq_true rfl) (by decide) (fun v2 => ?_)
    refine r_if_ne (tgt := 18) (pc := 12) hX dX7_name_12 (by decide) ?_ ?_
    · skip
      refine r_aload_n (pc := 18) hX 0 dX7_name_18 rfl rfl ?_
      refine r_getR (pc := 19) hX dX7_name_19 fp7_10 k0 rfl g0_0 ?_
      refine r_getI (pc := 22) hX dX7_name_22 fp7_76 k10 (by decide) ?_
      refine r_bipush (pc := 25) hX dX7_name_25 bp_24 ?_
      refine r_icmp_lt (tgt := 33) (pc := 27) hX dX7_name_27 (by decide) ?_ ?_
      · skip
        refine r_aload_n (pc := 33) hX 0 dX7_name_33 rfl rfl ?_
        refine r_cvV (st := []) (pc := 34) hX dX7_name_34 MI_NC_redraw MV_NC_redraw lkX7_80 k0 (c_NC_redraw m) rfl rfl (Nat.le_of_ble_eq_true rfl) (by decide) (fun m3 => ?_)
        refine r_aload_n (pc := 37) hX 0 dX7_name_37 rfl rfl ?_
        refine r_getR (pc := 38) hX dX7_name_38 fp7_10 k0 rfl g0_0 ?_
        refine r_iload_n (pc := 41) hX 1 dX7_name_41 rfl rfl ?_
        refine r_iload_n (pc := 42) hX 2 dX7_name_42 rfl rfl ?_
        refine r_iload_n (pc := 43) hX 3 dX7_name_43 rfl rfl ?_
        refine r_cvI (st := []) (pc := 44) hX dX7_name_44 MI_Chart_addName MV_Chart_addName lkX7_83 k10 (c_Chart_addName a0 a1 a2 m3) rfl rfl (Nat.le_of_ble_eq_true rfl) (by decide) (fun v4 m5 => ?_)
        exact r_iretI (pc := 47) hX hE dX7_name_47
      · skip
        refine r_bipush (pc := 30) hX dX7_name_30 bp_m5 ?_
        exact r_iretI (pc := 32) hX hE dX7_name_32
    · skip
      refine r_bipush (pc := 15) hX dX7_name_15 bp_m3 ?_
      exact r_iretI (pc := 17) hX hE dX7_name_17
def f_NC_dot (a0 : Int32) (a1 : Int32) (m : Me) : Option (Int32 × Me) := cP (f_NC_isPlace a0 a1 m) (fun v1 => if v1 = 0 then some ((-3 : Int32), m) else if (m.1 10 1) < (20 : Int32) then cP (f_NC_redraw m) (fun m2 => cI (f_Chart_addDot a0 a1 m2) (fun v3 m4 => some (v3, m4))) else some ((-5 : Int32), m))
set_option maxHeartbeats 4000000 in
set_option maxRecDepth 100000 in
theorem c_NC_dot (a0 : Int32) (a1 : Int32)  (m : Me) (r : Int32) (m' : Me) (h : f_NC_dot a0 a1 m = some (r, m')) : Ct yX7_dot cX7_dot 3 (some .int) 4 (fun ad => [.ref (ad 0), .int a0, .int a1]) m (fun ad => (some (.int r), m')) := by
  refine mk_ct (F := f_NC_dot a0 a1 m) (fun _ => oI) (r, m') h (fun _ => rfl) (by decide) (fun _ => Nat.le_of_ble_eq_true rfl) ?_
  intro X hX hE
  show J X oI (f_NC_dot a0 a1 m) m 0 [(0, rX X 0), (1, .int a0), (2, .int a1)] []
  unfold f_NC_dot
  refine r_iload_n (pc := 0) hX 1 dX7_dot_0 rfl rfl ?_
  refine r_iload_n (pc := 1) hX 2 dX7_dot_1 rfl rfl ?_
  refine r_csP (st := []) (pc := 2) hX dX7_dot_2 MI_NC_isPlace MS_NC_isPlace lkX7_72 (c_NC_isPlace a0 a1 m) rfl rfl (Nat.le_of_ble_eq_true rfl) (by decide) (fun v1 => ?_)
  refine r_if_ne (tgt := 11) (pc := 5) hX dX7_dot_5 (by decide) ?_ ?_
  · skip
    refine r_aload_n (pc := 11) hX 0 dX7_dot_11 rfl rfl ?_
    refine r_getR (pc := 12) hX dX7_dot_12 fp7_10 k0 rfl g0_0 ?_
    refine r_getI (pc := 15) hX dX7_dot_15 fp7_87 k10 (by decide) ?_
    refine r_bipush (pc := 18) hX dX7_dot_18 bp_20 ?_
    refine r_icmp_lt (tgt := 26) (pc := 20) hX dX7_dot_20 (by decide) ?_ ?_
    · skip
      refine r_aload_n (pc := 26) hX 0 dX7_dot_26 rfl rfl ?_
      refine r_cvV (st := []) (pc := 27) hX dX7_dot_27 MI_NC_redraw MV_NC_redraw lkX7_80 k0 (c_NC_redraw m) rfl rfl (Nat.le_of_ble_eq_true rfl) (by decide) (fun m2 => ?_)
      refine r_aload_n (pc := 30) hX 0 dX7_dot_30 rfl rfl ?_
      refine r_getR (pc := 31) hX dX7_dot_31 fp7_10 k0 rfl g0_0 ?_
      refine r_iload_n (pc := 34) hX 1 dX7_dot_34 rfl rfl ?_
      refine r_iload_n (pc := 35) hX 2 dX7_dot_35 rfl rfl ?_
      refine r_cvI (st := []) (pc := 36) hX dX7_dot_36 MI_Chart_addDot MV_Chart_addDot lkX7_90 k10 (c_Chart_addDot a0 a1 m2) rfl rfl (Nat.le_of_ble_eq_true rfl) (by decide) (fun v3 m4 => ?_)
      exact r_iretI (pc := 39) hX hE dX7_dot_39
    · skip
      refine r_bipush (pc := 23) hX dX7_dot_23 bp_m5 ?_
      exact r_iretI (pc := 25) hX hE dX7_dot_25
  · skip
    refine r_bipush (pc := 8) hX dX7_dot_8 bp_m3 ?_
    exact r_iretI (pc := 10) hX hE dX7_dot_10
def f_NC_move (a0 : Int32) (a1 : Int32) (a2 : Int32) (m : Me) : Option (Int32 × Me) := cP (f_Chart_has a0 m) (fun v1 => if v1 = 0 then some ((-3 : Int32), m) else cP (f_NC_isPlace a1 a2 m) (fun v2 => if v2 = 0 then some ((-3 : Int32), m) else cP (f_NC_redraw m) (fun m3 => wi m3 12 (ln 12) a0 a1 (fun m4 => wi m4 13 (ln 13) a0 a2 (fun m5 => some ((0 : Int32), m5))))))
set_option maxHeartbeats 4000000 in
set_option maxRecDepth 100000 in
theorem c_NC_move (a0 : Int32) (a1 : Int32) (a2 : Int32)  (m : Me) (r : Int32) (m' : Me) (h : f_NC_move a0 a1 a2 m = some (r, m')) : Ct yX7_move cX7_move 4 (some .int) 4 (fun ad => [.ref (ad 0), .int a0, .int a1, .int a2]) m (fun ad => (some (.int r), m')) := by
  refine mk_ct (F := f_NC_move a0 a1 a2 m) (fun _ => oI) (r, m') h (fun _ => rfl) (by decide) (fun _ => Nat.le_of_ble_eq_true rfl) ?_
  intro X hX hE
  show J X oI (f_NC_move a0 a1 a2 m) m 0 [(0, rX X 0), (1, .int a0), (2, .int a1), (3, .int a2)] []
  unfold f_NC_move
  refine r_aload_n (pc := 0) hX 0 dX7_move_0 rfl rfl ?_
  refine r_getR (pc := 1) hX dX7_move_1 fp7_10 k0 rfl g0_0 ?_
  refine r_iload_n (pc := 4) hX 1 dX7_move_4 rfl rfl ?_
  refine r_cvP (st := []) (pc := 5) hX dX7_move_5 MI_Chart_has MV_Chart_has lkX7_94 k10 (c_Chart_has a0 m) rfl rfl (Nat.le_of_ble_eq_true rfl) (by decide) (fun v1 => ?_)
  refine r_if_eq (tgt := 19) (pc := 8) hX dX7_move_8 (by decide) ?_ ?_
  · skip
    refine r_bipush (pc := 19) hX dX7_move_19 bp_m3 ?_
    exact r_iretI (pc := 21) hX hE dX7_move_21
  · skip
    refine r_iload_n (pc := 11) hX 2 dX7_move_11 rfl rfl ?_
    refine r_iload_n (pc := 12) hX 3 dX7_move_12 rfl rfl ?_
    refine r_csP (st := []) (pc := 13) hX dX7_move_13 MI_NC_isPlace MS_NC_isPlace lkX7_72 (c_NC_isPlace a1 a2 m) rfl rfl (Nat.le_of_ble_eq_true rfl) (by decide) (fun v2 => ?_)
    refine r_if_ne (tgt := 22) (pc := 16) hX dX7_move_16 (by decide) ?_ ?_
    · skip
      refine r_aload_n (pc := 22) hX 0 dX7_move_22 rfl rfl ?_
      refine r_cvV (st := []) (pc := 23) hX dX7_move_23 MI_NC_redraw MV_NC_redraw lkX7_80 k0 (c_NC_redraw m) rfl rfl (Nat.le_of_ble_eq_true rfl) (by decide) (fun m3 => ?_)
      refine r_aload_n (pc := 26) hX 0 dX7_move_26 rfl rfl ?_
      refine r_getR (pc := 27) hX dX7_move_27 fp7_10 k0 rfl g0_0 ?_
      refine r_getR (pc := 30) hX dX7_move_30 fp7_97 k10 rfl g10_3 ?_
      refine r_iload_n (pc := 33) hX 1 dX7_move_33 rfl rfl ?_
      refine r_iload_n (pc := 34) hX 2 dX7_move_34 rfl rfl ?_
      refine r_iast (pc := 35) hX dX7_move_35 k12 (fun m4 => ?_)
      refine r_aload_n (pc := 36) hX 0 dX7_move_36 rfl rfl ?_
      refine r_getR (pc := 37) hX dX7_move_37 fp7_10 k0 rfl g0_0 ?_
      refine r_getR (pc := 40) hX dX7_move_40 fp7_100 k10 rfl g10_4 ?_
      refine r_iload_n (pc := 43) hX 1 dX7_move_43 rfl rfl ?_
      refine r_iload_n (pc := 44) hX 3 dX7_move_44 rfl rfl ?_
      refine r_iast (pc := 45) hX dX7_move_45 k13 (fun m5 => ?_)
      refine r_iconst (pc := 46) hX dX7_move_46 ic_0 ?_
      exact r_iretI (pc := 47) hX hE dX7_move_47
    · skip
      refine r_bipush (pc := 19) hX dX7_move_19 bp_m3 ?_
      exact r_iretI (pc := 21) hX hE dX7_move_21
def f_NC_weigh (a0 : Int32) (a1 : Int32) (m : Me) : Option (Int32 × Me) := cP (f_Chart_has a0 m) (fun v1 => if v1 = 0 then some ((-3 : Int32), m) else cP (f_NC_within a1 (1 : Int32) (1000 : Int32) m) (fun v2 => if v2 = 0 then some ((-3 : Int32), m) else cP (f_NC_redraw m) (fun m3 => rd (ln 16) a0 (m3.1 16) (fun v4 => wi m3 16 (ln 16) a0 a1 (fun m5 => some (v4, m5))))))
set_option maxHeartbeats 4000000 in
set_option maxRecDepth 100000 in
theorem c_NC_weigh (a0 : Int32) (a1 : Int32)  (m : Me) (r : Int32) (m' : Me) (h : f_NC_weigh a0 a1 m = some (r, m')) : Ct yX7_weigh cX7_weigh 4 (some .int) 4 (fun ad => [.ref (ad 0), .int a0, .int a1]) m (fun ad => (some (.int r), m')) := by
  refine mk_ct (F := f_NC_weigh a0 a1 m) (fun _ => oI) (r, m') h (fun _ => rfl) (by decide) (fun _ => Nat.le_of_ble_eq_true rfl) ?_
  intro X hX hE
  show J X oI (f_NC_weigh a0 a1 m) m 0 [(0, rX X 0), (1, .int a0), (2, .int a1)] []
  unfold f_NC_weigh
  refine r_aload_n (pc := 0) hX 0 dX7_weigh_0 rfl rfl ?_
  refine r_getR (pc := 1) hX dX7_weigh_1 fp7_10 k0 rfl g0_0 ?_
  refine r_iload_n (pc := 4) hX 1 dX7_weigh_4 rfl rfl ?_
  refine r_cvP (st := []) (pc := 5) hX dX7_weigh_5 MI_Chart_has MV_Chart_has lkX7_94 k10 (c_Chart_has a0 m) rfl rfl (Nat.le_of_ble_eq_true rfl) (by decide) (fun v1 => ?_)
  refine r_if_eq (tgt := 22) (pc := 8) hX dX7_weigh_8 (by decide) ?_ ?_
  · skip
    refine r_bipush (pc := 22) hX dX7_weigh_22 bp_m3 ?_
    exact r_iretI (pc := 24) hX hE dX7_weigh_24
  · skip
    refine r_iload_n (pc := 11) hX 2 dX7_weigh_11 rfl rfl ?_
    refine r_iconst (pc := 12) hX dX7_weigh_12 ic_1 ?_
    refine r_sipush (pc := 13) hX dX7_weigh_13 sp_1000 ?_
    refine r_csP (st := []) (pc := 16) hX dX7_weigh_16 MI_NC_within MS_NC_within lkX7_103 (c_NC_within a1 (1 : Int32) (1000 : Int32) m) rfl rfl (Nat.le_of_ble_eq_true rfl) (by decide) (fun v2 => ?_)
    refine r_if_ne (tgt := 25) (pc := 19) hX dX7_weigh_19 (by decide) ?_ ?_
    · skip
      refine r_aload_n (pc := 25) hX 0 dX7_weigh_25 rfl rfl ?_
      refine r_cvV (st := []) (pc := 26) hX dX7_weigh_26 MI_NC_redraw MV_NC_redraw lkX7_80 k0 (c_NC_redraw m) rfl rfl (Nat.le_of_ble_eq_true rfl) (by decide) (fun m3 => ?_)
      refine r_aload_n (pc := 29) hX 0 dX7_weigh_29 rfl rfl ?_
      refine r_getR (pc := 30) hX dX7_weigh_30 fp7_10 k0 rfl g0_0 ?_
      refine r_getR (pc := 33) hX dX7_weigh_33 fp7_107 k10 rfl g10_7 ?_
      refine r_iload_n (pc := 36) hX 1 dX7_weigh_36 rfl rfl ?_
      refine r_iald (pc := 37) hX dX7_weigh_37 k16 (fun v4 => ?_)
      refine r_istore_n (L' := [(3, .int v4), (0, rX X 0), (1, .int a0), (2, .int a1)]) (pc := 38) hX dX7_weigh_38 rfl (by decide) rfl ?_
      refine r_aload_n (pc := 39) hX 1 dX7_weigh_39 rfl rfl ?_
      refine r_getR (pc := 40) hX dX7_weigh_40 fp7_10 k0 rfl g0_0 ?_
      refine r_getR (pc := 43) hX dX7_weigh_43 fp7_107 k10 rfl g10_7 ?_
      refine r_iload_n (pc := 46) hX 2 dX7_weigh_46 rfl rfl ?_
      refine r_iload_n (pc := 47) hX 3 dX7_weigh_47 rfl rfl ?_
      refine r_iast (pc := 48) hX dX7_weigh_48 k16 (fun m5 => ?_)
      refine r_iload_n (pc := 49) hX 0 dX7_weigh_49 rfl rfl ?_
      exact r_iretI (pc := 50) hX hE dX7_weigh_50
    · skip
      refine r_bipush (pc := 22) hX dX7_weigh_22 bp_m3 ?_
      exact r_iretI (pc := 24) hX hE dX7_weigh_24
def f_NC_size (a0 : Int32) (a1 : Int32) (a2 : Int32) (m : Me) : Option (Int32 × Me) := cP (f_Chart_has a0 m) (fun v1 => if v1 = 0 then some ((-3 : Int32), m) else cP (f_NC_within a1 (1 : Int32) (300 : Int32) m) (fun v2 => if v2 = 0 then some ((-3 : Int32), m) else cP (f_NC_within a2 (1 : Int32) (80 : Int32) m) (fun v3 => if v3 = 0 then some ((-3 : Int32), m) else cP (f_NC_redraw m) (fun m4 => wi m4 14 (ln 14) a0 a1 (fun m5 => wi m5 15 (ln 15) a0 a2 (fun m6 => some ((0 : Int32), m6)))))))
set_option maxHeartbeats 4000000 in
set_option maxRecDepth 100000 in
theorem c_NC_size (a0 : Int32) (a1 : Int32) (a2 : Int32)  (m : Me) (r : Int32) (m' : Me) (h : f_NC_size a0 a1 a2 m = some (r, m')) : Ct yX7_size cX7_size 4 (some .int) 4 (fun ad => [.ref (ad 0), .int a0, .int a1, .int a2]) m (fun ad => (some (.int r), m')) := by
  refine mk_ct (F := f_NC_size a0 a1 a2 m) (fun _ => oI) (r, m') h (fun _ => rfl) (by decide) (fun _ => Nat.le_of_ble_eq_true rfl) ?_
  intro X hX hE
  show J X oI (f_NC_size a0 a1 a2 m) m 0 [(0, rX X 0), (1, .int a0), (2, .int a1), (3, .int a2)] []
  unfold f_NC_size
  refine r_aload_n (pc := 0) hX 0 dX7_size_0 rfl rfl ?_
  refine r_getR (pc := 1) hX dX7_size_1 fp7_10 k0 rfl g0_0 ?_
  refine r_iload_n (pc := 4) hX 1 dX7_size_4 rfl rfl ?_
  refine r_cvP (st := []) (pc := 5) hX dX7_size_5 MI_Chart_has MV_Chart_has lkX7_94 k10 (c_Chart_has a0 m) rfl rfl (Nat.le_of_ble_eq_true rfl) (by decide) (fun v1 => ?_)
  refine r_if_eq (tgt := 32) (pc := 8) hX dX7_size_8 (by decide) ?_ ?_
  · skip
    refine r_bipush (pc := 32) hX dX7_size_32 bp_m3 ?_
    exact r_iretI (pc := 34) hX hE dX7_size_34
  · skip
    refine r_iload_n (pc := 11) hX 2 dX7_size_11 rfl rfl ?_
    refine r_iconst (pc := 12) hX dX7_size_12 ic_1 ?_
    refine r_sipush (pc := 13) hX dX7_size_13 sp_300 ?_
    refine r_csP (st := []) (pc := 16) hX dX7_size_16 MI_NC_within MS_NC_within lkX7_103 (c_NC_within a1 (1 : Int32) (300 : Int32) m) rfl rfl (Nat.le_of_ble_eq_true rfl) (by decide) (fun v2 => ?_)
    refine r_if_eq (tgt := 32) (pc := 19) hX dX7_size_19 (by decide) ?_ ?_
    · skip
      refine r_bipush (pc := 32) hX dX7_size_32 bp_m3 ?_
      exact r_iretI (pc := 34) hX hE dX7_size_34
    · skip
      refine r_iload_n (pc := 22) hX 3 dX7_size_22 rfl rfl ?_
      refine r_iconst (pc := 23) hX dX7_size_23 ic_1 ?_
      refine r_bipush (pc := 24) hX dX7_size_24 bp_80 ?_
      refine r_csP (st := []) (pc := 26) hX dX7_size_26 MI_NC_within MS_NC_within lkX7_103 (c_NC_within a2 (1 : Int32) (80 : Int32) m) rfl rfl (Nat.le_of_ble_eq_true rfl) (by decide) (fun v3 => ?_)
      refine r_if_ne (tgt := 35) (pc := 29) hX dX7_size_29 (by decide) ?_ ?_
      · skip
        refine r_aload_n (pc := 35) hX 0 dX7_size_35 rfl rfl ?_
        refine r_cvV (st := []) (pc := 36) hX dX7_size_36 MI_NC_redraw MV_NC_redraw lkX7_80 k0 (c_NC_redraw m) rfl rfl (Nat.le_of_ble_eq_true rfl) (by decide) (fun m4 => ?_)
        refine r_aload_n (pc := 39) hX 0 dX7_size_39 rfl rfl ?_
        refine r_getR (pc := 40) hX dX7_size_40 fp7_10 k0 rfl g0_0 ?_
        refine r_getR (pc := 43) hX dX7_size_43 fp7_110 k10 rfl g10_5 ?_
        refine r_iload_n (pc := 46) hX 1 dX7_size_46 rfl rfl ?_
        refine r_iload_n (pc := 47) hX 2 dX7_size_47 rfl rfl ?_
        refine r_iast (pc := 48) hX dX7_size_48 k14 (fun m5 => ?_)
        refine r_aload_n (pc := 49) hX 0 dX7_size_49 rfl rfl ?_
        refine r_getR (pc := 50) hX dX7_size_50 fp7_10 k0 rfl g0_0 ?_
        refine r_getR (pc := 53) hX dX7_size_53 fp7_113 k10 rfl g10_6 ?_
        refine r_iload_n (pc := 56) hX 1 dX7_size_56 rfl rfl ?_
        refine r_iload_n (pc := 57) hX 3 dX7_size_57 rfl rfl ?_
        refine r_iast (pc := 58) hX dX7_size_58 k15 (fun m6 => ?_)
        refine r_iconst (pc := 59) hX dX7_size_59 ic_0 ?_
        exact r_iretI (pc := 60) hX hE dX7_size_60
      · skip
        refine r_bipush (pc := 32) hX dX7_size_32 bp_m3 ?_
        exact r_iretI (pc := 34) hX hE dX7_size_34
def f_NC_layOut  (m : Me) : Option Me := cP (f_Lay_refresh m) (fun m1 => some m1)
set_option maxHeartbeats 4000000 in
set_option maxRecDepth 100000 in
theorem c_NC_layOut   (m : Me) (r : Me) (h : f_NC_layOut  m = some r) : Ct yX7_layOut cX7_layOut 1 none 4 (fun ad => [.ref (ad 0)]) m (fun ad => (none, r)) := by
  refine mk_ct (F := f_NC_layOut  m) (fun _ => oV) r h (fun _ => rfl) (by decide) (fun _ => Nat.le_of_ble_eq_true rfl) ?_
  intro X hX hE
  show J X oV (f_NC_layOut  m) m 0 [(0, rX X 0)] []
  unfold f_NC_layOut
  refine r_aload_n (pc := 0) hX 0 dX7_layOut_0 rfl rfl ?_
  refine r_getR (pc := 1) hX dX7_layOut_1 fp7_26 k0 rfl g0_2 ?_
  refine r_aload_n (pc := 4) hX 0 dX7_layOut_4 rfl rfl ?_
  refine r_getR (pc := 5) hX dX7_layOut_5 fp7_10 k0 rfl g0_0 ?_
  refine r_cvV (st := []) (pc := 8) hX dX7_layOut_8 MI_Lay_refresh MV_Lay_refresh lkX7_285 k3 (c_Lay_refresh m) rfl rfl (Nat.le_of_ble_eq_true rfl) (by decide) (fun m1 => ?_)
  exact r_vret (pc := 11) hX hE dX7_layOut_11
def f_Integer_bitCount (a0 : Int32) (m : Me) : Option Int32 := bd ((a0 - ((((ush a0 (1 : Int32))) &&& (1431655765 : Int32))))) (fun v1 => bd ((((v1 &&& (858993459 : Int32))) + ((((ush v1 (2 : Int32))) &&& (858993459 : Int32))))) (fun v2 => bd ((((v2 + ((ush v2 (4 : Int32))))) &&& (252645135 : Int32))) (fun v3 => bd ((v3 + ((ush v3 (8 : Int32))))) (fun v4 => bd ((v4 + ((ush v4 (16 : Int32))))) (fun v5 => some (v5 &&& (63 : Int32)))))))
set_option maxHeartbeats 4000000 in
set_option maxRecDepth 100000 in
theorem c_Integer_bitCount (a0 : Int32)  (m : Me) (r : Int32) (h : f_Integer_bitCount a0 m = some r) : Ct yJ6_bitCount_0f7a4 cJ6_bitCount_0f7a4 1 (some .int) 0 (fun ad => [.int a0]) m (fun ad => (some (.int r), m)) := by
  refine mk_ct (F := f_Integer_bitCount a0 m) (fun _ => oP m) r h (fun _ => rfl) (by decide) (fun _ => Nat.le_of_ble_eq_true rfl) ?_
  intro X hX hE
  show J X (oP m) (f_Integer_bitCount a0 m) m 0 [(0, .int a0)] []
  unfold f_Integer_bitCount
  refine r_iload_n (pc := 0) hX 0 dJ6_bitCount_0f7a4_0 rfl rfl ?_
  refine r_iload_n (pc := 1) hX 0 dJ6_bitCount_0f7a4_1 rfl rfl ?_
  refine r_iconst (pc := 2) hX dJ6_bitCount_0f7a4_2 ic_1 ?_
  refine r_iushr (pc := 3) hX dJ6_bitCount_0f7a4_3 ?_
  refine r_ldcw (pc := 4) hX dJ6_bitCount_0f7a4_4 cnJ6_265 ?_
  refine r_iand (pc := 7) hX dJ6_bitCount_0f7a4_7 ?_
  refine r_isub (pc := 8) hX dJ6_bitCount_0f7a4_8 ?_
  refine r_nmI (fun v1 => ?_)
  refine r_istore_n (L' := [(0, .int v1)]) (pc := 9) hX dJ6_bitCount_0f7a4_9 rfl (by decide) rfl ?_
  refine r_iload_n (pc := 10) hX 0 dJ6_bitCount_0f7a4_10 rfl rfl ?_
  refine r_ldcw (pc := 11) hX dJ6_bitCount_0f7a4_11 cnJ6_266 ?_
  refine r_iand (pc := 14) hX dJ6_bitCount_0f7a4_14 ?_
  refine r_iload_n (pc := 15) hX 0 dJ6_bitCount_0f7a4_15 rfl rfl ?_
  refine r_iconst (pc := 16) hX dJ6_bitCount_0f7a4_16 ic_2 ?_
  refine r_iushr (pc := 17) hX dJ6_bitCount_0f7a4_17 ?_
  refine r_ldcw (pc := 18) hX dJ6_bitCount_0f7a4_18 cnJ6_266 ?_
  refine r_iand (pc := 21) hX dJ6_bitCount_0f7a4_21 ?_
  refine r_iadd (pc := 22) hX dJ6_bitCount_0f7a4_22 ?_
  refine r_nmI (fun v2 => ?_)
  refine r_istore_n (L' := [(0, .int v2)]) (pc := 23) hX dJ6_bitCount_0f7a4_23 rfl (by decide) rfl ?_
  refine r_iload_n (pc := 24) hX 0 dJ6_bitCount_0f7a4_24 rfl rfl ?_
  refine r_iload_n (pc := 25) hX 0 dJ6_bitCount_0f7a4_25 rfl rfl ?_
  refine r_iconst (pc := 26) hX dJ6_bitCount_0f7a4_26 ic_4 ?_
  refine r_iushr (pc := 27) hX dJ6_bitCount_0f7a4_27 ?_
  refine r_iadd (pc := 28) hX dJ6_bitCount_0f7a4_28 ?_
  refine r_ldcw (pc := 29) hX dJ6_bitCount_0f7a4_29 cnJ6_267 ?_
  refine r_iand (pc := 32) hX dJ6_bitCount_0f7a4_32 ?_
  refine r_nmI (fun v3 => ?_)
  refine r_istore_n (L' := [(0, .int v3)]) (pc := 33) hX dJ6_bitCount_0f7a4_33 rfl (by decide) rfl ?_
  refine r_iload_n (pc := 34) hX 0 dJ6_bitCount_0f7a4_34 rfl rfl ?_
  refine r_iload_n (pc := 35) hX 0 dJ6_bitCount_0f7a4_35 rfl rfl ?_
  refine r_bipush (pc := 36) hX dJ6_bitCount_0f7a4_36 bp_8 ?_
  refine r_iushr (pc := 38) hX dJ6_bitCount_0f7a4_38 ?_
  refine r_iadd (pc := 39) hX dJ6_bitCount_0f7a4_39 ?_
  refine r_nmI (fun v4 => ?_)
  refine r_istore_n (L' := [(0, .int v4)]) (pc := 40) hX dJ6_bitCount_0f7a4_40 rfl (by decide) rfl ?_
  refine r_iload_n (pc := 41) hX 0 dJ6_bitCount_0f7a4_41 rfl rfl ?_
  refine r_iload_n (pc := 42) hX 0 dJ6_bitCount_0f7a4_42 rfl rfl ?_
  refine r_bipush (pc := 43) hX dJ6_bitCount_0f7a4_43 bp_16 ?_
  refine r_iushr (pc := 45) hX dJ6_bitCount_0f7a4_45 ?_
  refine r_iadd (pc := 46) hX dJ6_bitCount_0f7a4_46 ?_
  refine r_nmI (fun v5 => ?_)
  refine r_istore_n (L' := [(0, .int v5)]) (pc := 47) hX dJ6_bitCount_0f7a4_47 rfl (by decide) rfl ?_
  refine r_iload_n (pc := 48) hX 0 dJ6_bitCount_0f7a4_48 rfl rfl ?_
  refine r_bipush (pc := 49) hX dJ6_bitCount_0f7a4_49 bp_63 ?_
  refine r_iand (pc := 51) hX dJ6_bitCount_0f7a4_51 ?_
  exact r_iretP (pc := 52) hX hE dJ6_bitCount_0f7a4_52
def f_NC_openWays (a0 : Int32) (m : Me) : Option (Int32 × Me) := cP (f_NC_layOut m) (fun m1 => rd (ln 5) a0 (m1.1 5) (fun v2 => cP (f_Integer_bitCount v2 m1) (fun v3 => some (v3, m1))))
set_option maxHeartbeats 4000000 in
set_option maxRecDepth 100000 in
theorem c_NC_openWays (a0 : Int32)  (m : Me) (r : Int32) (m' : Me) (h : f_NC_openWays a0 m = some (r, m')) : Ct yX7_openWays cX7_openWays 2 (some .int) 5 (fun ad => [.ref (ad 0), .int a0]) m (fun ad => (some (.int r), m')) := by
  refine mk_ct (F := f_NC_openWays a0 m) (fun _ => oI) (r, m') h (fun _ => rfl) (by decide) (fun _ => Nat.le_of_ble_eq_true rfl) ?_
  intro X hX hE
  show J X oI (f_NC_openWays a0 m) m 0 [(0, rX X 0), (1, .int a0)] []
  unfold f_NC_openWays
  refine r_aload_n (pc := 0) hX 0 dX7_openWays_0 rfl rfl ?_
  refine r_cvV (st := []) (pc := 1) hX dX7_openWays_1 MI_NC_layOut MV_NC_layOut lkX7_172 k0 (c_NC_layOut m) rfl rfl (Nat.le_of_ble_eq_true rfl) (by decide) (fun m1 => ?_)
  refine r_aload_n (pc := 4) hX 0 dX7_openWays_4 rfl rfl ?_
  refine r_getR (pc := 5) hX dX7_openWays_5 fp7_26 k0 rfl g0_2 ?_
  refine r_getR (pc := 8) hX dX7_openWays_8 fp7_289 k3 rfl g3_1 ?_
  refine r_iload_n (pc := 11) hX 1 dX7_openWays_11 rfl rfl ?_
  refine r_iald (pc := 12) hX dX7_openWays_12 k5 (fun v2 => ?_)
  refine r_csP (st := []) (pc := 13) hX dX7_openWays_13 MI_Integer_bitCount MS_Integer_bitCount lkX7_178 (c_Integer_bitCount v2 m1) rfl rfl (Nat.le_of_ble_eq_true rfl) (by decide) (fun v3 => ?_)
  exact r_iretI (pc := 16) hX hE dX7_openWays_16
def f_NC_splitUp  (m : Me) : Option Me := cP (f_NC_layOut m) (fun m1 => cP (f_Parts_refresh m1) (fun m2 => some m2))
set_option maxHeartbeats 4000000 in
set_option maxRecDepth 100000 in
theorem c_NC_splitUp   (m : Me) (r : Me) (h : f_NC_splitUp  m = some r) : Ct yX7_splitUp cX7_splitUp 1 none 6 (fun ad => [.ref (ad 0)]) m (fun ad => (none, r)) := by
  refine mk_ct (F := f_NC_splitUp  m) (fun _ => oV) r h (fun _ => rfl) (by decide) (fun _ => Nat.le_of_ble_eq_true rfl) ?_
  intro X hX hE
  show J X oV (f_NC_splitUp  m) m 0 [(0, rX X 0)] []
  unfold f_NC_splitUp
  refine r_aload_n (pc := 0) hX 0 dX7_splitUp_0 rfl rfl ?_
  refine r_cvV (st := []) (pc := 1) hX dX7_splitUp_1 MI_NC_layOut MV_NC_layOut lkX7_172 k0 (c_NC_layOut m) rfl rfl (Nat.le_of_ble_eq_true rfl) (by decide) (fun m1 => ?_)
  refine r_aload_n (pc := 4) hX 0 dX7_splitUp_4 rfl rfl ?_
  refine r_getR (pc := 5) hX dX7_splitUp_5 fp7_33 k0 rfl g0_3 ?_
  refine r_aload_n (pc := 8) hX 0 dX7_splitUp_8 rfl rfl ?_
  refine r_getR (pc := 9) hX dX7_splitUp_9 fp7_10 k0 rfl g0_0 ?_
  refine r_aload_n (pc := 12) hX 0 dX7_splitUp_12 rfl rfl ?_
  refine r_getR (pc := 13) hX dX7_splitUp_13 fp7_26 k0 rfl g0_2 ?_
  refine r_cvV (st := []) (pc := 16) hX dX7_splitUp_16 MI_Parts_refresh MV_Parts_refresh lkX7_286 k6 (c_Parts_refresh m1) rfl rfl (Nat.le_of_ble_eq_true rfl) (by decide) (fun m2 => ?_)
  exact r_vret (pc := 19) hX hE dX7_splitUp_19
def f_NC_about (a0 : Int32) (a1 : Int32) (m : Me) : Option (Int32 × Me) := cP (f_Chart_has a0 m) (fun v1 => if v1 = 0 then some ((-3 : Int32), m) else if a1 = (0 : Int32) then rd (ln 11) a0 (m.1 11) (fun v2 => some (v2, m)) else if a1 = (1 : Int32) then rd (ln 12) a0 (m.1 12) (fun v3 => some (v3, m)) else if a1 = (2 : Int32) then rd (ln 13) a0 (m.1 13) (fun v4 => some (v4, m)) else if a1 = (3 : Int32) then rd (ln 14) a0 (m.1 14) (fun v5 => some (v5, m)) else if a1 = (4 : Int32) then rd (ln 15) a0 (m.1 15) (fun v6 => some (v6, m)) else if a1 = (5 : Int32) then rd (ln 16) a0 (m.1 16) (fun v7 => some (v7, m)) else if a1 = (6 : Int32) then cP (f_Chart_waysOf a0 m) (fun v8 => some (v8, m)) else if a1 = (7 : Int32) then cI (f_NC_openWays a0 m) (fun v9 m10 => some (v9, m10)) else if a1 = (8 : Int32) then cP (f_NC_splitUp m) (fun m11 => rd (ln 7) a0 (m11.1 7) (fun v12 => some (v12, m11))) else some ((-3 : Int32), m))
set_option maxHeartbeats 4000000 in
set_option maxRecDepth 100000 in
theorem c_NC_about (a0 : Int32) (a1 : Int32)  (m : Me) (r : Int32) (m' : Me) (h : f_NC_about a0 a1 m = some (r, m')) : Ct yX7_about cX7_about 3 (some .int) 7 (fun ad => [.ref (ad 0), .int a0, .int a1]) m (fun ad => (some (.int r), m')) := by
  refine mk_ct (F := f_NC_about a0 a1 m) (fun _ => oI) (r, m') h (fun _ => rfl) (by decide) (fun _ => Nat.le_of_ble_eq_true rfl) ?_
  intro X hX hE
  show J X oI (f_NC_about a0 a1 m) m 0 [(0, rX X 0), (1, .int a0), (2, .int a1)] []
  unfold f_NC_about
  refine r_aload_n (pc := 0) hX 0 dX7_about_0 rfl rfl ?_
  refine r_getR (pc := 1) hX dX7_about_1 fp7_10 k0 rfl g0_0 ?_
  refine r_iload_n (pc := 4) hX 1 dX7_about_4 rfl rfl ?_
  refine r_cvP (st := []) (pc := 5) hX dX7_about_5 MI_Chart_has MV_Chart_has lkX7_94 k10 (c_Chart_has a0 m) rfl rfl (Nat.le_of_ble_eq_true rfl) (by decide) (fun v1 => ?_)
  refine r_if_ne (tgt := 14) (pc := 8) hX dX7_about_8 (by decide) ?_ ?_
  · skip
    refine r_iload_n (pc := 14) hX 2 dX7_about_14 rfl rfl ?_
    refine r_ite (fun hs0 => ?_) (fun hs0 => ?_)
    · refine r_swIn (tgt := 64) (pc := 15) hX dX7_about_15 (by rw [hs0]; decide) (by rw [hs0]; decide) (by rw [hs0]; rfl) (by decide) ?_
      refine r_aload_n (pc := 64) hX 0 dX7_about_64 rfl rfl ?_
      refine r_getR (pc := 65) hX dX7_about_65 fp7_10 k0 rfl g0_0 ?_
      refine r_getR (pc := 68) hX dX7_about_68 fp7_116 k10 rfl g10_2 ?_
      refine r_iload_n (pc := 71) hX 1 dX7_about_71 rfl rfl ?_
      refine r_iald (pc := 72) hX dX7_about_72 k11 (fun v2 => ?_)
      exact r_iretI (pc := 73) hX hE dX7_about_73
    refine r_ite (fun hs1 => ?_) (fun hs1 => ?_)
    · refine r_swIn (tgt := 74) (pc := 15) hX dX7_about_15 (by rw [hs1]; decide) (by rw [hs1]; decide) (by rw [hs1]; rfl) (by decide) ?_
      refine r_aload_n (pc := 74) hX 0 dX7_about_74 rfl rfl ?_
      refine r_getR (pc := 75) hX dX7_about_75 fp7_10 k0 rfl g0_0 ?_
      refine r_getR (pc := 78) hX dX7_about_78 fp7_97 k10 rfl g10_3 ?_
      refine r_iload_n (pc := 81) hX 1 dX7_about_81 rfl rfl ?_
      refine r_iald (pc := 82) hX dX7_about_82 k12 (fun v3 => ?_)
      exact r_iretI (pc := 83) hX hE dX7_about_83
    refine r_ite (fun hs2 => ?_) (fun hs2 => ?_)
    · refine r_swIn (tgt := 84) (pc := 15) hX dX7_about_15 (by rw [hs2]; decide) (by rw [hs2]; decide) (by rw [hs2]; rfl) (by decide) ?_
      refine r_aload_n (pc := 84) hX 0 dX7_about_84 rfl rfl ?_
      refine r_getR (pc := 85) hX dX7_about_85 fp7_10 k0 rfl g0_0 ?_
      refine r_getR (pc := 88) hX dX7_about_88 fp7_100 k10 rfl g10_4 ?_
      refine r_iload_n (pc := 91) hX 1 dX7_about_91 rfl rfl ?_
      refine r_iald (pc := 92) hX dX7_about_92 k13 (fun v4 => ?_)
      exact r_iretI (pc := 93) hX hE dX7_about_93
    refine r_ite (fun hs3 => ?_) (fun hs3 => ?_)
    · refine r_swIn (tgt := 94) (pc := 15) hX dX7_about_15 (by rw [hs3]; decide) (by rw [hs3]; decide) (by rw [hs3]; rfl) (by decide) ?_
      refine r_aload_n (pc := 94) hX 0 dX7_about_94 rfl rfl ?_
      refine r_getR (pc := 95) hX dX7_about_95 fp7_10 k0 rfl g0_0 ?_
      refine r_getR (pc := 98) hX dX7_about_98 fp7_110 k10 rfl g10_5 ?_
      refine r_iload_n (pc := 101) hX 1 dX7_about_101 rfl rfl ?_
      refine r_iald (pc := 102) hX dX7_about_102 k14 (fun v5 => ?_)
      exact r_iretI (pc := 103) hX hE dX7_about_103
    refine r_ite (fun hs4 => ?_) (fun hs4 => ?_)
    · refine r_swIn (tgt := 104) (pc := 15) hX dX7_about_15 (by rw [hs4]; decide) (by rw [hs4]; decide) (by rw [hs4]; rfl) (by decide) ?_
      refine r_aload_n (pc := 104) hX 0 dX7_about_104 rfl rfl ?_
      refine r_getR (pc := 105) hX dX7_about_105 fp7_10 k0 rfl g0_0 ?_
      refine r_getR (pc := 108) hX dX7_about_108 fp7_113 k10 rfl g10_6 ?_
      refine r_iload_n (pc := 111) hX 1 dX7_about_111 rfl rfl ?_
      refine r_iald (pc := 112) hX dX7_about_112 k15 (fun v6 => ?_)
      exact r_iretI (pc := 113) hX hE dX7_about_113
    refine r_ite (fun hs5 => ?_) (fun hs5 => ?_)
    · refine r_swIn (tgt := 114) (pc := 15) hX dX7_about_15 (by rw [hs5]; decide) (by rw [hs5]; decide) (by rw [hs5]; rfl) (by decide) ?_
      refine r_aload_n (pc := 114) hX 0 dX7_about_114 rfl rfl ?_
      refine r_getR (pc := 115) hX dX7_about_115 fp7_10 k0 rfl g0_0 ?_
      refine r_getR (pc := 118) hX dX7_about_118 fp7_107 k10 rfl g10_7 ?_
      refine r_iload_n (pc := 121) hX 1 dX7_about_121 rfl rfl ?_
      refine r_iald (pc := 122) hX dX7_about_122 k16 (fun v7 => ?_)
      exact r_iretI (pc := 123) hX hE dX7_about_123
    refine r_ite (fun hs6 => ?_) (fun hs6 => ?_)
    · refine r_swIn (tgt := 124) (pc := 15) hX dX7_about_15 (by rw [hs6]; decide) (by rw [hs6]; decide) (by rw [hs6]; rfl) (by decide) ?_
      refine r_aload_n (pc := 124) hX 0 dX7_about_124 rfl rfl ?_
      refine r_getR (pc := 125) hX dX7_about_125 fp7_10 k0 rfl g0_0 ?_
      refine r_iload_n (pc := 128) hX 1 dX7_about_128 rfl rfl ?_
      refine r_cvP (st := []) (pc := 129) hX dX7_about_129 MI_Chart_waysOf MV_Chart_waysOf lkX7_119 k10 (c_Chart_waysOf a0 m) rfl rfl (Nat.le_of_ble_eq_true rfl) (by decide) (fun v8 => ?_)
      exact r_iretI (pc := 132) hX hE dX7_about_132
    refine r_ite (fun hs7 => ?_) (fun hs7 => ?_)
    · refine r_swIn (tgt := 133) (pc := 15) hX dX7_about_15 (by rw [hs7]; decide) (by rw [hs7]; decide) (by rw [hs7]; rfl) (by decide) ?_
      refine r_aload_n (pc := 133) hX 0 dX7_about_133 rfl rfl ?_
      refine r_iload_n (pc := 134) hX 1 dX7_about_134 rfl rfl ?_
      refine r_cvI (st := []) (pc := 135) hX dX7_about_135 MI_NC_openWays MV_NC_openWays lkX7_123 k0 (c_NC_openWays a0 m) rfl rfl (Nat.le_of_ble_eq_true rfl) (by decide) (fun v9 m10 => ?_)
      exact r_iretI (pc := 138) hX hE dX7_about_138
    refine r_ite (fun hs8 => ?_) (fun hs8 => ?_)
    · refine r_swIn (tgt := 139) (pc := 15) hX dX7_about_15 (by rw [hs8]; decide) (by rw [hs8]; decide) (by rw [hs8]; rfl) (by decide) ?_
      refine r_aload_n (pc := 139) hX 0 dX7_about_139 rfl rfl ?_
      refine r_cvV (st := []) (pc := 140) hX dX7_about_140 MI_NC_splitUp MV_NC_splitUp lkX7_126 k0 (c_NC_splitUp m) rfl rfl (Nat.le_of_ble_eq_true rfl) (by decide) (fun m11 => ?_)
      refine r_aload_n (pc := 143) hX 0 dX7_about_143 rfl rfl ?_
      refine r_getR (pc := 144) hX dX7_about_144 fp7_33 k0 rfl g0_3 ?_
      refine r_getR (pc := 147) hX dX7_about_147 fp7_129 k6 rfl g6_0 ?_
      refine r_iload_n (pc := 150) hX 1 dX7_about_150 rfl rfl ?_
      refine r_iald (pc := 151) hX dX7_about_151 k7 (fun v12 => ?_)
      exact r_iretI (pc := 152) hX hE dX7_about_152
    refine r_swOut (tgt := 153) (pc := 15) hX dX7_about_15 (sw_def (n := 8) (by decide) (fun k hk => by rcases (show k = 0 ∨ k = 1 ∨ k = 2 ∨ k = 3 ∨ k = 4 ∨ k = 5 ∨ k = 6 ∨ k = 7 ∨ k = 8 by omega) with rfl | rfl | rfl | rfl | rfl | rfl | rfl | rfl | rfl <;> first | exact hs0 | exact hs1 | exact hs2 | exact hs3 | exact hs4 | exact hs5 | exact hs6 | exact hs7 | exact hs8)) (by decide) ?_
    refine r_bipush (pc := 153) hX dX7_about_153 bp_m3 ?_
    exact r_iretI (pc := 155) hX hE dX7_about_155
  · skip
    refine r_bipush (pc := 11) hX dX7_about_11 bp_m3 ?_
    exact r_iretI (pc := 13) hX hE dX7_about_13
def f_NC_yes (a0 : Int32) (m : Me) : Option Int32 := if a0 = 0 then some (0 : Int32) else some (1 : Int32)
set_option maxHeartbeats 4000000 in
set_option maxRecDepth 100000 in
theorem c_NC_yes (a0 : Int32)  (m : Me) (r : Int32) (h : f_NC_yes a0 m = some r) : Ct yX7_yes cX7_yes 1 (some .int) 0 (fun ad => [.int a0]) m (fun ad => (some (.int r), m)) := by
  refine mk_ct (F := f_NC_yes a0 m) (fun _ => oP m) r h (fun _ => rfl) (by decide) (fun _ => Nat.le_of_ble_eq_true rfl) ?_
  intro X hX hE
  show J X (oP m) (f_NC_yes a0 m) m 0 [(0, .int a0)] []
  unfold f_NC_yes
  refine r_iload_n (pc := 0) hX 0 dX7_yes_0 rfl rfl ?_
  refine r_if_eq (tgt := 8) (pc := 1) hX dX7_yes_1 (by decide) ?_ ?_
  · skip
    refine r_iconst (pc := 8) hX dX7_yes_8 ic_0 ?_
    exact r_iretP (pc := 9) hX hE dX7_yes_9
  · skip
    refine r_iconst (pc := 4) hX dX7_yes_4 ic_1 ?_
    refine r_goto (tgt := 9) (pc := 5) hX dX7_yes_5 (by decide) ?_
    exact r_iretP (pc := 9) hX hE dX7_yes_9
def f_NC_isOf (a0 : Int32) (a1 : Int32) (m : Me) : Option Int32 := cP (f_Chart_has a0 m) (fun v1 => if v1 = 0 then some (-3 : Int32) else cP (f_NC_isKind a1 m) (fun v2 => if v2 = 0 then some (-3 : Int32) else cP (f_Chart_isOfKind a0 a1 m) (fun v3 => cP (f_NC_yes v3 m) (fun v4 => some v4))))
set_option maxHeartbeats 4000000 in
set_option maxRecDepth 100000 in
theorem c_NC_isOf (a0 : Int32) (a1 : Int32)  (m : Me) (r : Int32) (h : f_NC_isOf a0 a1 m = some r) : Ct yX7_isOf cX7_isOf 3 (some .int) 2 (fun ad => [.ref (ad 0), .int a0, .int a1]) m (fun ad => (some (.int r), m)) := by
  refine mk_ct (F := f_NC_isOf a0 a1 m) (fun _ => oP m) r h (fun _ => rfl) (by decide) (fun _ => Nat.le_of_ble_eq_true rfl) ?_
  intro X hX hE
  show J X (oP m) (f_NC_isOf a0 a1 m) m 0 [(0, rX X 0), (1, .int a0), (2, .int a1)] []
  unfold f_NC_isOf
  refine r_aload_n (pc := 0) hX 0 dX7_isOf_0 rfl rfl ?_
  refine r_getR (pc := 1) hX dX7_isOf_1 fp7_10 k0 rfl g0_0 ?_
  refine r_iload_n (pc := 4) hX 1 dX7_isOf_4 rfl rfl ?_
  refine r_cvP (st := []) (pc := 5) hX dX7_isOf_5 MI_Chart_has MV_Chart_has lkX7_94 k10 (c_Chart_has a0 m) rfl rfl (Nat.le_of_ble_eq_true rfl) (by decide) (fun v1 => ?_)
  refine r_if_eq (tgt := 33) (pc := 8) hX dX7_isOf_8 (by decide) ?_ ?_
  · skip
    refine r_bipush (pc := 33) hX dX7_isOf_33 bp_m3 ?_
    exact r_iretP (pc := 35) hX hE dX7_isOf_35
  · skip
    refine r_iload_n (pc := 11) hX 2 dX7_isOf_11 rfl rfl ?_
    refine r_csP (st := []) (pc := 12) hX dX7_isOf_12 MI_NC_isKind MS_NC_isKind lkX7_68 (c_NC_isKind a1 m) rfl rfl (Nat.le_of_ble_eq_true rfl) (by decide) (fun v2 => ?_)
    refine r_if_eq (tgt := 33) (pc := 15) hX dX7_isOf_15 (by decide) ?_ ?_
    · skip
      refine r_bipush (pc := 33) hX dX7_isOf_33 bp_m3 ?_
      exact r_iretP (pc := 35) hX hE dX7_isOf_35
    · skip
      refine r_aload_n (pc := 18) hX 0 dX7_isOf_18 rfl rfl ?_
      refine r_getR (pc := 19) hX dX7_isOf_19 fp7_10 k0 rfl g0_0 ?_
      refine r_iload_n (pc := 22) hX 1 dX7_isOf_22 rfl rfl ?_
      refine r_iload_n (pc := 23) hX 2 dX7_isOf_23 rfl rfl ?_
      refine r_cvP (st := []) (pc := 24) hX dX7_isOf_24 MI_Chart_isOfKind MV_Chart_isOfKind lkX7_132 k10 (c_Chart_isOfKind a0 a1 m) rfl rfl (Nat.le_of_ble_eq_true rfl) (by decide) (fun v3 => ?_)
      refine r_csP (st := []) (pc := 27) hX dX7_isOf_27 MI_NC_yes MS_NC_yes lkX7_135 (c_NC_yes v3 m) rfl rfl (Nat.le_of_ble_eq_true rfl) (by decide) (fun v4 => ?_)
      refine r_goto (tgt := 35) (pc := 30) hX dX7_isOf_30 (by decide) ?_
      exact r_iretP (pc := 35) hX hE dX7_isOf_35
def f_NC_isZoom (a0 : Int32) (m : Me) : Option Int32 := cP (f_NC_within a0 (0 : Int32) (6 : Int32) m) (fun v1 => zg v1 v1)
set_option maxHeartbeats 4000000 in
set_option maxRecDepth 100000 in
theorem c_NC_isZoom (a0 : Int32)  (m : Me) (r : Int32) (h : f_NC_isZoom a0 m = some r) : Ct yX7_isZoom cX7_isZoom 1 (some .boolean) 1 (fun ad => [.int a0]) m (fun ad => (some (.int r), m)) := by
  refine mk_ct (F := f_NC_isZoom a0 m) (fun _ => oP m) r h (fun _ => rfl) (by decide) (fun _ => Nat.le_of_ble_eq_true rfl) ?_
  intro X hX hE
  show J X (oP m) (f_NC_isZoom a0 m) m 0 [(0, .int a0)] []
  unfold f_NC_isZoom
  refine r_iload_n (pc := 0) hX 0 dX7_isZoom_0 rfl rfl ?_
  refine r_iconst (pc := 1) hX dX7_isZoom_1 ic_0 ?_
  refine r_bipush (pc := 2) hX dX7_isZoom_2 bp_6 ?_
  refine r_csP (st := []) (pc := 4) hX dX7_isZoom_4 MI_NC_within MS_NC_within lkX7_103 (c_NC_within a0 (0 : Int32) (6 : Int32) m) rfl rfl (Nat.le_of_ble_eq_true rfl) (by decide) (fun v1 => ?_)
  exact r_zretP (pc := 7) hX hE dX7_isZoom_7
def f_NC_way (a0 : Int32) (a1 : Int32) (a2 : Int32) (a3 : Int32) (m : Me) : Option (Int32 × Me) := cP (f_Chart_hasWay a0 a1 m) (fun v1 => if v1 = 0 then some ((-3 : Int32), m) else cP (f_NC_isZoom a2 m) (fun v2 => if v2 = 0 then some ((-3 : Int32), m) else cP (f_Box_lay 1384 a0 a1 a2 m) (fun m3 => if a3 = (0 : Int32) then some ((m3.1 1384 0), m3) else if a3 = (1 : Int32) then some ((m3.1 1384 1), m3) else if a3 = (2 : Int32) then some ((((m3.1 1384 2)) - ((m3.1 1384 0))), m3) else if a3 = (3 : Int32) then some ((((m3.1 1384 3)) - ((m3.1 1384 1))), m3) else if a3 = (4 : Int32) then cP (f_Chart_priceOf a0 a1 m3) (fun v4 => some (v4, m3)) else if a3 = (5 : Int32) then cP (f_Box_isOpen 1384 a2 m3) (fun v5 => cP (f_NC_yes v5 m3) (fun v6 => some (v6, m3))) else some ((-3 : Int32), m3))))
set_option maxHeartbeats 4000000 in
set_option maxRecDepth 100000 in
theorem c_NC_way (a0 : Int32) (a1 : Int32) (a2 : Int32) (a3 : Int32)  (m : Me) (r : Int32) (m' : Me) (h : f_NC_way a0 a1 a2 a3 m = some (r, m')) : Ct yX7_way cX7_way 5 (some .int) 3 (fun ad => [.ref (ad 0), .int a0, .int a1, .int a2, .int a3]) m (fun ad => (some (.int r), m')) := by
  refine mk_ct (F := f_NC_way a0 a1 a2 a3 m) (fun _ => oI) (r, m') h (fun _ => rfl) (by decide) (fun _ => Nat.le_of_ble_eq_true rfl) ?_
  intro X hX hE
  show J X oI (f_NC_way a0 a1 a2 a3 m) m 0 [(0, rX X 0), (1, .int a0), (2, .int a1), (3, .int a2), (4, .int a3)] []
  unfold f_NC_way
  refine r_aload_n (pc := 0) hX 0 dX7_way_0 rfl rfl ?_
  refine r_getR (pc := 1) hX dX7_way_1 fp7_10 k0 rfl g0_0 ?_
  refine r_iload_n (pc := 4) hX 1 dX7_way_4 rfl rfl ?_
  refine r_iload_n (pc := 5) hX 2 dX7_way_5 rfl rfl ?_
  refine r_cvP (st := []) (pc := 6) hX dX7_way_6 MI_Chart_hasWay MV_Chart_hasWay lkX7_139 k10 (c_Chart_hasWay a0 a1 m) rfl rfl (Nat.le_of_ble_eq_true rfl) (by decide) (fun v1 => ?_)
  refine r_if_eq (tgt := 19) (pc := 9) hX dX7_way_9 (by decide) ?_ ?_
  · skip
    refine r_bipush (pc := 19) hX dX7_way_19 bp_m3 ?_
    exact r_iretI (pc := 21) hX hE dX7_way_21
  · skip
    refine r_iload_n (pc := 12) hX 3 dX7_way_12 rfl rfl ?_
    refine r_csP (st := []) (pc := 13) hX dX7_way_13 MI_NC_isZoom MS_NC_isZoom lkX7_142 (c_NC_isZoom a2 m) rfl rfl (Nat.le_of_ble_eq_true rfl) (by decide) (fun v2 => ?_)
    refine r_if_ne (tgt := 22) (pc := 16) hX dX7_way_16 (by decide) ?_ ?_
    · skip
      refine r_aload_n (pc := 22) hX 0 dX7_way_22 rfl rfl ?_
      refine r_getR (pc := 23) hX dX7_way_23 fp7_54 k0 rfl g0_6 ?_
      refine r_aload_n (pc := 26) hX 0 dX7_way_26 rfl rfl ?_
      refine r_getR (pc := 27) hX dX7_way_27 fp7_10 k0 rfl g0_0 ?_
      refine r_iload_n (pc := 30) hX 1 dX7_way_30 rfl rfl ?_
      refine r_iload_n (pc := 31) hX 2 dX7_way_31 rfl rfl ?_
      refine r_iload_n (pc := 32) hX 3 dX7_way_32 rfl rfl ?_
      refine r_cvV (st := []) (pc := 33) hX dX7_way_33 MI_Box_lay MV_Box_lay lkX7_145 k1384 (c_Box_lay 1384 a0 a1 a2 k1384 m) rfl rfl (Nat.le_of_ble_eq_true rfl) (by decide) (fun m3 => ?_)
      refine r_iload (pc := 36) hX 4 dX7_way_36 rfl ?_
      refine r_ite (fun hs0 => ?_) (fun hs0 => ?_)
      · refine r_swIn (tgt := 76) (pc := 38) hX dX7_way_38 (by rw [hs0]; decide) (by rw [hs0]; decide) (by rw [hs0]; rfl) (by decide) ?_
        refine r_aload_n (pc := 76) hX 0 dX7_way_76 rfl rfl ?_
        refine r_getR (pc := 77) hX dX7_way_77 fp7_54 k0 rfl g0_6 ?_
        refine r_getI (pc := 80) hX dX7_way_80 fp7_149 k1384 (by decide) ?_
        exact r_iretI (pc := 83) hX hE dX7_way_83
      refine r_ite (fun hs1 => ?_) (fun hs1 => ?_)
      · refine r_swIn (tgt := 84) (pc := 38) hX dX7_way_38 (by rw [hs1]; decide) (by rw [hs1]; decide) (by rw [hs1]; rfl) (by decide) ?_
        refine r_aload_n (pc := 84) hX 0 dX7_way_84 rfl rfl ?_
        refine r_getR (pc := 85) hX dX7_way_85 fp7_54 k0 rfl g0_6 ?_
        refine r_getI (pc := 88) hX dX7_way_88 fp7_152 k1384 (by decide) ?_
        exact r_iretI (pc := 91) hX hE dX7_way_91
      refine r_ite (fun hs2 => ?_) (fun hs2 => ?_)
      · refine r_swIn (tgt := 92) (pc := 38) hX dX7_way_38 (by rw [hs2]; decide) (by rw [hs2]; decide) (by rw [hs2]; rfl) (by decide) ?_
        refine r_aload_n (pc := 92) hX 0 dX7_way_92 rfl rfl ?_
        refine r_getR (pc := 93) hX dX7_way_93 fp7_54 k0 rfl g0_6 ?_
        refine r_getI (pc := 96) hX dX7_way_96 fp7_155 k1384 (by decide) ?_
        refine r_aload_n (pc := 99) hX 0 dX7_way_99 rfl rfl ?_
        refine r_getR (pc := 100) hX dX7_way_100 fp7_54 k0 rfl g0_6 ?_
        refine r_getI (pc := 103) hX dX7_way_103 fp7_149 k1384 (by decide) ?_
        refine r_isub (pc := 106) hX dX7_way_106 ?_
        exact r_iretI (pc := 107) hX hE dX7_way_107
      refine r_ite (fun hs3 => ?_) (fun hs3 => ?_)
      · refine r_swIn (tgt := 108) (pc := 38) hX dX7_way_38 (by rw [hs3]; decide) (by rw [hs3]; decide) (by rw [hs3]; rfl) (by decide) ?_
        refine r_aload_n (pc := 108) hX 0 dX7_way_108 rfl rfl ?_
        refine r_getR (pc := 109) hX dX7_way_109 fp7_54 k0 rfl g0_6 ?_
        refine r_getI (pc := 112) hX dX7_way_112 fp7_158 k1384 (by decide) ?_
        refine r_aload_n (pc := 115) hX 0 dX7_way_115 rfl rfl ?_
        refine r_getR (pc := 116) hX dX7_way_116 fp7_54 k0 rfl g0_6 ?_
        refine r_getI (pc := 119) hX dX7_way_119 fp7_152 k1384 (by decide) ?_
        refine r_isub (pc := 122) hX dX7_way_122 ?_
        exact r_iretI (pc := 123) hX hE dX7_way_123
      refine r_ite (fun hs4 => ?_) (fun hs4 => ?_)
      · refine r_swIn (tgt := 124) (pc := 38) hX dX7_way_38 (by rw [hs4]; decide) (by rw [hs4]; decide) (by rw [hs4]; rfl) (by decide) ?_
        refine r_aload_n (pc := 124) hX 0 dX7_way_124 rfl rfl ?_
        refine r_getR (pc := 125) hX dX7_way_125 fp7_10 k0 rfl g0_0 ?_
        refine r_iload_n (pc := 128) hX 1 dX7_way_128 rfl rfl ?_
        refine r_iload_n (pc := 129) hX 2 dX7_way_129 rfl rfl ?_
        refine r_cvP (st := []) (pc := 130) hX dX7_way_130 MI_Chart_priceOf MV_Chart_priceOf lkX7_161 k10 (c_Chart_priceOf a0 a1 m3) rfl rfl (Nat.le_of_ble_eq_true rfl) (by decide) (fun v4 => ?_)
        exact r_iretI (pc := 133) hX hE dX7_way_133
      refine r_ite (fun hs5 => ?_) (fun hs5 => ?_)
      · refine r_swIn (tgt := 134) (pc := 38) hX dX7_way_38 (by rw [hs5]; decide) (by rw [hs5]; decide) (by rw [hs5]; rfl) (by decide) ?_
        refine r_aload_n (pc := 134) hX 0 dX7_way_134 rfl rfl ?_
        refine r_getR (pc := 135) hX dX7_way_135 fp7_54 k0 rfl g0_6 ?_
        refine r_aload_n (pc := 138) hX 0 dX7_way_138 rfl rfl ?_
        refine r_getR (pc := 139) hX dX7_way_139 fp7_10 k0 rfl g0_0 ?_
        refine r_iload_n (pc := 142) hX 3 dX7_way_142 rfl rfl ?_
        refine r_cvP (st := []) (pc := 143) hX dX7_way_143 MI_Box_isOpen MV_Box_isOpen lkX7_164 k1384 (c_Box_isOpen 1384 a2 k1384 m3) rfl rfl (Nat.le_of_ble_eq_true rfl) (by decide) (fun v5 => ?_)
        refine r_csP (st := []) (pc := 146) hX dX7_way_146 MI_NC_yes MS_NC_yes lkX7_135 (c_NC_yes v5 m3) rfl rfl (Nat.le_of_ble_eq_true rfl) (by decide) (fun v6 => ?_)
        exact r_iretI (pc := 149) hX hE dX7_way_149
      refine r_swOut (tgt := 150) (pc := 38) hX dX7_way_38 (sw_def (n := 5) (by decide) (fun k hk => by rcases (show k = 0 ∨ k = 1 ∨ k = 2 ∨ k = 3 ∨ k = 4 ∨ k = 5 by omega) with rfl | rfl | rfl | rfl | rfl | rfl <;> first | exact hs0 | exact hs1 | exact hs2 | exact hs3 | exact hs4 | exact hs5)) (by decide) ?_
      refine r_bipush (pc := 150) hX dX7_way_150 bp_m3 ?_
      exact r_iretI (pc := 152) hX hE dX7_way_152
    · skip
      refine r_bipush (pc := 19) hX dX7_way_19 bp_m3 ?_
      exact r_iretI (pc := 21) hX hE dX7_way_21
def f_NC_clash (a0 : Int32) (a1 : Int32) (a2 : Int32) (a3 : Int32) (a4 : Int32) (m : Me) : Option (Int32 × Me) := cP (f_Chart_hasWay a0 a1 m) (fun v1 => if v1 = 0 then some ((-3 : Int32), m) else cP (f_Chart_hasWay a2 a3 m) (fun v2 => if v2 = 0 then some ((-3 : Int32), m) else if a0 = a2 then some ((-3 : Int32), m) else cP (f_NC_isZoom a4 m) (fun v3 => if v3 = 0 then some ((-3 : Int32), m) else cP (f_Box_lay 1384 a0 a1 a4 m) (fun m4 => cP (f_Box_lay 1385 a2 a3 a4 m4) (fun m5 => cP (f_Box_hits 1384 1385 m5) (fun v6 => cP (f_NC_yes v6 m5) (fun v7 => some (v7, m5))))))))
set_option maxHeartbeats 4000000 in
set_option maxRecDepth 100000 in
theorem c_NC_clash (a0 : Int32) (a1 : Int32) (a2 : Int32) (a3 : Int32) (a4 : Int32)  (m : Me) (r : Int32) (m' : Me) (h : f_NC_clash a0 a1 a2 a3 a4 m = some (r, m')) : Ct yX7_clash cX7_clash 6 (some .int) 3 (fun ad => [.ref (ad 0), .int a0, .int a1, .int a2, .int a3, .int a4]) m (fun ad => (some (.int r), m')) := by
  refine mk_ct (F := f_NC_clash a0 a1 a2 a3 a4 m) (fun _ => oI) (r, m') h (fun _ => rfl) (by decide) (fun _ => Nat.le_of_ble_eq_true rfl) ?_
  intro X hX hE
  show J X oI (f_NC_clash a0 a1 a2 a3 a4 m) m 0 [(0, rX X 0), (1, .int a0), (2, .int a1), (3, .int a2), (4, .int a3), (5, .int a4)] []
  unfold f_NC_clash
  refine r_aload_n (pc := 0) hX 0 dX7_clash_0 rfl rfl ?_
  refine r_getR (pc := 1) hX dX7_clash_1 fp7_10 k0 rfl g0_0 ?_
  refine r_iload_n (pc := 4) hX 1 dX7_clash_4 rfl rfl ?_
  refine r_iload_n (pc := 5) hX 2 dX7_clash_5 rfl rfl ?_
  refine r_cvP (st := []) (pc := 6) hX dX7_clash_6 MI_Chart_hasWay MV_Chart_hasWay lkX7_139 k10 (c_Chart_hasWay a0 a1 m) rfl rfl (Nat.le_of_ble_eq_true rfl) (by decide) (fun v1 => ?_)
  refine r_if_eq (tgt := 38) (pc := 9) hX dX7_clash_9 (by decide) ?_ ?_
  · skip
    refine r_bipush (pc := 38) hX dX7_clash_38 bp_m3 ?_
    exact r_iretI (pc := 40) hX hE dX7_clash_40
  · skip
    refine r_aload_n (pc := 12) hX 0 dX7_clash_12 rfl rfl ?_
    refine r_getR (pc := 13) hX dX7_clash_13 fp7_10 k0 rfl g0_0 ?_
    refine r_iload_n (pc := 16) hX 3 dX7_clash_16 rfl rfl ?_
    refine r_iload (pc := 17) hX 4 dX7_clash_17 rfl ?_
    refine r_cvP (st := []) (pc := 19) hX dX7_clash_19 MI_Chart_hasWay MV_Chart_hasWay lkX7_139 k10 (c_Chart_hasWay a2 a3 m) rfl rfl (Nat.le_of_ble_eq_true rfl) (by decide) (fun v2 => ?_)
    refine r_if_eq (tgt := 38) (pc := 22) hX dX7_clash_22 (by decide) ?_ ?_
    · skip
      refine r_bipush (pc := 38) hX dX7_clash_38 bp_m3 ?_
      exact r_iretI (pc := 40) hX hE dX7_clash_40
    · skip
      refine r_iload_n (pc := 25) hX 1 dX7_clash_25 rfl rfl ?_
      refine r_iload_n (pc := 26) hX 3 dX7_clash_26 rfl rfl ?_
      refine r_icmp_eq (tgt := 38) (pc := 27) hX dX7_clash_27 (by decide) ?_ ?_
      · skip
        refine r_bipush (pc := 38) hX dX7_clash_38 bp_m3 ?_
        exact r_iretI (pc := 40) hX hE dX7_clash_40
      · skip
        refine r_iload (pc := 30) hX 5 dX7_clash_30 rfl ?_
        refine r_csP (st := []) (pc := 32) hX dX7_clash_32 MI_NC_isZoom MS_NC_isZoom lkX7_142 (c_NC_isZoom a4 m) rfl rfl (Nat.le_of_ble_eq_true rfl) (by decide) (fun v3 => ?_)
        refine r_if_ne (tgt := 41) (pc := 35) hX dX7_clash_35 (by decide) ?_ ?_
        · skip
          refine r_aload_n (pc := 41) hX 0 dX7_clash_41 rfl rfl ?_
          refine r_getR (pc := 42) hX dX7_clash_42 fp7_54 k0 rfl g0_6 ?_
          refine r_aload_n (pc := 45) hX 0 dX7_clash_45 rfl rfl ?_
          refine r_getR (pc := 46) hX dX7_clash_46 fp7_10 k0 rfl g0_0 ?_
          refine r_iload_n (pc := 49) hX 1 dX7_clash_49 rfl rfl ?_
          refine r_iload_n (pc := 50) hX 2 dX7_clash_50 rfl rfl ?_
          refine r_iload (pc := 51) hX 5 dX7_clash_51 rfl ?_
          refine r_cvV (st := []) (pc := 53) hX dX7_clash_53 MI_Box_lay MV_Box_lay lkX7_145 k1384 (c_Box_lay 1384 a0 a1 a4 k1384 m) rfl rfl (Nat.le_of_ble_eq_true rfl) (by decide) (fun m4 => ?_)
          refine r_aload_n (pc := 56) hX 0 dX7_clash_56 rfl rfl ?_
          refine r_getR (pc := 57) hX dX7_clash_57 fp7_58 k0 rfl g0_7 ?_
          refine r_aload_n (pc := 60) hX 0 dX7_clash_60 rfl rfl ?_
          refine r_getR (pc := 61) hX dX7_clash_61 fp7_10 k0 rfl g0_0 ?_
          refine r_iload_n (pc := 64) hX 3 dX7_clash_64 rfl rfl ?_
          refine r_iload (pc := 65) hX 4 dX7_clash_65 rfl ?_
          refine r_iload (pc := 67) hX 5 dX7_clash_67 rfl ?_
          refine r_cvV (st := []) (pc := 69) hX dX7_clash_69 MI_Box_lay MV_Box_lay lkX7_145 k1385 (c_Box_lay 1385 a2 a3 a4 k1385 m4) rfl rfl (Nat.le_of_ble_eq_true rfl) (by decide) (fun m5 => ?_)
          refine r_aload_n (pc := 72) hX 0 dX7_clash_72 rfl rfl ?_
          refine r_getR (pc := 73) hX dX7_clash_73 fp7_54 k0 rfl g0_6 ?_
          refine r_aload_n (pc := 76) hX 0 dX7_clash_76 rfl rfl ?_
          refine r_getR (pc := 77) hX dX7_clash_77 fp7_58 k0 rfl g0_7 ?_
          refine r_cvP (st := []) (pc := 80) hX dX7_clash_80 MI_Box_hits MV_Box_hits lkX7_168 k1384 (c_Box_hits 1384 1385 k1384 k1385 m5) rfl rfl (Nat.le_of_ble_eq_true rfl) (by decide) (fun v6 => ?_)
          refine r_csP (st := []) (pc := 83) hX dX7_clash_83 MI_NC_yes MS_NC_yes lkX7_135 (c_NC_yes v6 m5) rfl rfl (Nat.le_of_ble_eq_true rfl) (by decide) (fun v7 => ?_)
          exact r_iretI (pc := 86) hX hE dX7_clash_86
        · skip
          refine r_bipush (pc := 38) hX dX7_clash_38 bp_m3 ?_
          exact r_iretI (pc := 40) hX hE dX7_clash_40
def lb_NC_clashes_24 (a0 : Int32) (a1 : Int32) (m2 : Me) (s24 : Int32 → Int32 → Option (Int32 × Me)) (v3 : Int32) (v4 : Int32) : Option (Int32 × Me) := if (m2.1 10 0) ≤ v4 then some (v3, m2) else bd (fun (v5 : Int32) => bd (v4 + 1) (fun v6 => (s24 v5 v6))) (fun k59_ => if v4 = a0 then (k59_ v3) else cP (f_Lay_openHits a0 a1 v4 m2) (fun v7 => cP (f_Integer_bitCount v7 m2) (fun v8 => bd ((v3 + v8)) (fun v9 => (k59_ v9)))))
def f_NC_clashes (a0 : Int32) (a1 : Int32) (m : Me) : Option (Int32 × Me) := cP (f_Chart_hasWay a0 a1 m) (fun v1 => if v1 = 0 then some ((-3 : Int32), m) else cP (f_NC_layOut m) (fun m2 => ((fx (lb_NC_clashes_24 a0 a1 m2) (fun _ _ => none) FU) (0 : Int32) (0 : Int32))))
set_option maxHeartbeats 4000000 in
set_option maxRecDepth 100000 in
theorem c_NC_clashes (a0 : Int32) (a1 : Int32)  (m : Me) (r : Int32) (m' : Me) (h : f_NC_clashes a0 a1 m = some (r, m')) : Ct yX7_clashes cX7_clashes 5 (some .int) 5 (fun ad => [.ref (ad 0), .int a0, .int a1]) m (fun ad => (some (.int r), m')) := by
  refine mk_ct (F := f_NC_clashes a0 a1 m) (fun _ => oI) (r, m') h (fun _ => rfl) (by decide) (fun _ => Nat.le_of_ble_eq_true rfl) ?_
  intro X hX hE
  show J X oI (f_NC_clashes a0 a1 m) m 0 [(0, rX X 0), (1, .int a0), (2, .int a1)] []
  unfold f_NC_clashes
  refine r_aload_n (pc := 0) hX 0 dX7_clashes_0 rfl rfl ?_
  refine r_getR (pc := 1) hX dX7_clashes_1 fp7_10 k0 rfl g0_0 ?_
  refine r_iload_n (pc := 4) hX 1 dX7_clashes_4 rfl rfl ?_
  refine r_iload_n (pc := 5) hX 2 dX7_clashes_5 rfl rfl ?_
  refine r_cvP (st := []) (pc := 6) hX dX7_clashes_6 MI_Chart_hasWay MV_Chart_hasWay lkX7_139 k10 (c_Chart_hasWay a0 a1 m) rfl rfl (Nat.le_of_ble_eq_true rfl) (by decide) (fun v1 => ?_)
  refine r_if_ne (tgt := 15) (pc := 9) hX dX7_clashes_9 (by decide) ?_ ?_
  · skip
    refine r_aload_n (pc := 15) hX 0 dX7_clashes_15 rfl rfl ?_
    refine r_cvV (st := []) (pc := 16) hX dX7_clashes_16 MI_NC_layOut MV_NC_layOut lkX7_172 k0 (c_NC_layOut m) rfl rfl (Nat.le_of_ble_eq_true rfl) (by decide) (fun m2 => ?_)
    refine r_iconst (pc := 19) hX dX7_clashes_19 ic_0 ?_
    refine r_istore_n (L' := [(3, .int (0 : Int32)), (0, rX X 0), (1, .int a0), (2, .int a1)]) (pc := 20) hX dX7_clashes_20 rfl (by decide) rfl ?_
    refine r_iconst (pc := 21) hX dX7_clashes_21 ic_0 ?_
    refine r_istore (L' := [(4, .int (0 : Int32)), (3, .int (0 : Int32)), (0, rX X 0), (1, .int a0), (2, .int a1)]) (pc := 22) hX dX7_clashes_22 (by decide) rfl ?_
    have hl24 : ∀ n : Nat, ∀ (v3 : Int32) (v4 : Int32), J X oI (fx (lb_NC_clashes_24 a0 a1 m2) (fun _ _ => none) n v3 v4) m2 24 [(0, rX X 0), (1, .int a0), (2, .int a1), (3, .int v3), (4, .int v4)] [] := by
      refine fx_ind (fun (f : Int32 → Int32 → Option (Int32 × Me)) => ∀ (v3 : Int32) (v4 : Int32), J X oI (f v3 v4) m2 24 [(0, rX X 0), (1, .int a0), (2, .int a1), (3, .int v3), (4, .int v4)] []) (fun _ _ => r_none) ?_
      intro s24 hs24 v3 v4
      unfold lb_NC_clashes_24
      refine r_iload (pc := 24) hX 4 dX7_clashes_24 rfl ?_
      refine r_aload_n (pc := 26) hX 0 dX7_clashes_26 rfl rfl ?_
      refine r_getR (pc := 27) hX dX7_clashes_27 fp7_10 k0 rfl g0_0 ?_
      refine r_getI (pc := 30) hX dX7_clashes_30 fp7_76 k10 (by decide) ?_
      refine r_icmp_ge (tgt := 65) (pc := 33) hX dX7_clashes_33 (by decide) ?_ ?_
      · skip
        refine r_iload_n (pc := 65) hX 3 dX7_clashes_65 rfl rfl ?_
        exact r_iretI (pc := 66) hX hE dX7_clashes_66
      · skip
        refine r_iload (pc := 36) hX 4 dX7_clashes_36 rfl ?_
        refine r_iload_n (pc := 38) hX 1 dX7_clashes_38 rfl rfl ?_
        refine r_join (P := fun k => ∀ (v5 : Int32), J X oI (k v5) m2 59 [(0, rX X 0), (1, .int a0), (2, .int a1), (3, .int v5), (4, .int v4)] []) ?_ ?_
        · intro v5
          refine r_iincN (L' := fun w => [(4, .int w), (0, rX X 0), (1, .int a0), (2, .int a1), (3, .int v5)]) (pc := 59) hX 4 dX7_clashes_59 rfl rfl (by decide) (fun _ => rfl) (fun v6 => ?_)
          refine r_goto (tgt := 24) (pc := 62) hX dX7_clashes_62 (by decide) ?_
          exact r_sub [1, 2, 3, 4, 0] rfl (hs24 v5 v6)
        intro k59_ hk59_
        refine r_icmp_eq (tgt := 59) (pc := 39) hX dX7_clashes_39 (by decide) ?_ ?_
        · skip
          exact hk59_ v3
        · skip
          refine r_iload_n (pc := 42) hX 3 dX7_clashes_42 rfl rfl ?_
          refine r_aload_n (pc := 43) hX 0 dX7_clashes_43 rfl rfl ?_
          refine r_getR (pc := 44) hX dX7_clashes_44 fp7_26 k0 rfl g0_2 ?_
          refine r_iload_n (pc := 47) hX 1 dX7_clashes_47 rfl rfl ?_
          refine r_iload_n (pc := 48) hX 2 dX7_clashes_48 rfl rfl ?_
          refine r_iload (pc := 49) hX 4 dX7_clashes_49 rfl ?_
          refine r_cvP (st := [.int v3]) (pc := 51) hX dX7_clashes_51 MI_Lay_openHits MV_Lay_openHits lkX7_175 k3 (c_Lay_openHits a0 a1 v4 m2) rfl rfl (Nat.le_of_ble_eq_true rfl) (by decide) (fun v7 => ?_)
          refine r_csP (st := [.int v3]) (pc := 54) hX dX7_clashes_54 MI_Integer_bitCount MS_Integer_bitCount lkX7_178 (c_Integer_bitCount v7 m2) rfl rfl (Nat.le_of_ble_eq_true rfl) (by decide) (fun v8 => ?_)
          refine r_iadd (pc := 57) hX dX7_clashes_57 ?_
          refine r_nmI (fun v9 => ?_)
          refine r_istore_n (L' := [(3, .int v9), (0, rX X 0), (1, .int a0), (2, .int a1), (4, .int v4)]) (pc := 58) hX dX7_clashes_58 rfl (by decide) rfl ?_
          exact r_sub [1, 2, 3, 0, 4] rfl (hk59_ v9)
    exact r_sub [2, 3, 4, 1, 0] rfl (hl24 FU (0 : Int32) (0 : Int32))
  · skip
    refine r_bipush (pc := 12) hX dX7_clashes_12 bp_m3 ?_
    exact r_iretI (pc := 14) hX hE dX7_clashes_14
def f_NC_parts  (m : Me) : Option (Int32 × Me) := cP (f_NC_splitUp m) (fun m1 => some ((m1.1 6 2), m1))
set_option maxHeartbeats 4000000 in
set_option maxRecDepth 100000 in
theorem c_NC_parts   (m : Me) (r : Int32) (m' : Me) (h : f_NC_parts  m = some (r, m')) : Ct yX7_parts cX7_parts 1 (some .int) 7 (fun ad => [.ref (ad 0)]) m (fun ad => (some (.int r), m')) := by
  refine mk_ct (F := f_NC_parts  m) (fun _ => oI) (r, m') h (fun _ => rfl) (by decide) (fun _ => Nat.le_of_ble_eq_true rfl) ?_
  intro X hX hE
  show J X oI (f_NC_parts  m) m 0 [(0, rX X 0)] []
  unfold f_NC_parts
  refine r_aload_n (pc := 0) hX 0 dX7_parts_0 rfl rfl ?_
  refine r_cvV (st := []) (pc := 1) hX dX7_parts_1 MI_NC_splitUp MV_NC_splitUp lkX7_126 k0 (c_NC_splitUp m) rfl rfl (Nat.le_of_ble_eq_true rfl) (by decide) (fun m1 => ?_)
  refine r_aload_n (pc := 4) hX 0 dX7_parts_4 rfl rfl ?_
  refine r_getR (pc := 5) hX dX7_parts_5 fp7_33 k0 rfl g0_3 ?_
  refine r_getI (pc := 8) hX dX7_parts_8 fp7_183 k6 (by decide) ?_
  exact r_iretI (pc := 11) hX hE dX7_parts_11
def f_NC_set (a0 : Int32) (a1 : Int32) (m : Me) : Option (Int32 × Me) := cP (f_Chart_hasWay a0 a1 m) (fun v1 => if v1 = 0 then some ((-3 : Int32), m) else cP (f_Hist_keep m) (fun m2 => rd (ln 17) a0 (m2.1 17) (fun v3 => wi m2 17 (ln 17) a0 a1 (fun m4 => some (v3, m4)))))
set_option maxHeartbeats 4000000 in
set_option maxRecDepth 100000 in
theorem c_NC_set (a0 : Int32) (a1 : Int32)  (m : Me) (r : Int32) (m' : Me) (h : f_NC_set a0 a1 m = some (r, m')) : Ct yX7_set cX7_set 4 (some .int) 3 (fun ad => [.ref (ad 0), .int a0, .int a1]) m (fun ad => (some (.int r), m')) := by
  refine mk_ct (F := f_NC_set a0 a1 m) (fun _ => oI) (r, m') h (fun _ => rfl) (by decide) (fun _ => Nat.le_of_ble_eq_true rfl) ?_
  intro X hX hE
  show J X oI (f_NC_set a0 a1 m) m 0 [(0, rX X 0), (1, .int a0), (2, .int a1)] []
  unfold f_NC_set
  refine r_aload_n (pc := 0) hX 0 dX7_set_0 rfl rfl ?_
  refine r_getR (pc := 1) hX dX7_set_1 fp7_10 k0 rfl g0_0 ?_
  refine r_iload_n (pc := 4) hX 1 dX7_set_4 rfl rfl ?_
  refine r_iload_n (pc := 5) hX 2 dX7_set_5 rfl rfl ?_
  refine r_cvP (st := []) (pc := 6) hX dX7_set_6 MI_Chart_hasWay MV_Chart_hasWay lkX7_139 k10 (c_Chart_hasWay a0 a1 m) rfl rfl (Nat.le_of_ble_eq_true rfl) (by decide) (fun v1 => ?_)
  refine r_if_ne (tgt := 15) (pc := 9) hX dX7_set_9 (by decide) ?_ ?_
  · skip
    refine r_aload_n (pc := 15) hX 0 dX7_set_15 rfl rfl ?_
    refine r_getR (pc := 16) hX dX7_set_16 fp7_19 k0 rfl g0_1 ?_
    refine r_aload_n (pc := 19) hX 0 dX7_set_19 rfl rfl ?_
    refine r_getR (pc := 20) hX dX7_set_20 fp7_10 k0 rfl g0_0 ?_
    refine r_cvV (st := []) (pc := 23) hX dX7_set_23 MI_Hist_keep MV_Hist_keep lkX7_186 k1 (c_Hist_keep m) rfl rfl (Nat.le_of_ble_eq_true rfl) (by decide) (fun m2 => ?_)
    refine r_aload_n (pc := 26) hX 0 dX7_set_26 rfl rfl ?_
    refine r_getR (pc := 27) hX dX7_set_27 fp7_10 k0 rfl g0_0 ?_
    refine r_getR (pc := 30) hX dX7_set_30 fp7_190 k10 rfl g10_8 ?_
    refine r_iload_n (pc := 33) hX 1 dX7_set_33 rfl rfl ?_
    refine r_iald (pc := 34) hX dX7_set_34 k17 (fun v3 => ?_)
    refine r_istore_n (L' := [(3, .int v3), (0, rX X 0), (1, .int a0), (2, .int a1)]) (pc := 35) hX dX7_set_35 rfl (by decide) rfl ?_
    refine r_aload_n (pc := 36) hX 1 dX7_set_36 rfl rfl ?_
    refine r_getR (pc := 37) hX dX7_set_37 fp7_10 k0 rfl g0_0 ?_
    refine r_getR (pc := 40) hX dX7_set_40 fp7_190 k10 rfl g10_8 ?_
    refine r_iload_n (pc := 43) hX 2 dX7_set_43 rfl rfl ?_
    refine r_iload_n (pc := 44) hX 3 dX7_set_44 rfl rfl ?_
    refine r_iast (pc := 45) hX dX7_set_45 k17 (fun m4 => ?_)
    refine r_iload_n (pc := 46) hX 0 dX7_set_46 rfl rfl ?_
    exact r_iretI (pc := 47) hX hE dX7_set_47
  · skip
    refine r_bipush (pc := 12) hX dX7_set_12 bp_m3 ?_
    exact r_iretI (pc := 14) hX hE dX7_set_14
def f_NC_free (a0 : Int32) (m : Me) : Option (Int32 × Me) := cP (f_Chart_has a0 m) (fun v1 => if v1 = 0 then some ((-3 : Int32), m) else rd (ln 17) a0 (m.1 17) (fun v2 => if v2 = (-1 : Int32) then some ((-4 : Int32), m) else cP (f_Hist_keep m) (fun m3 => wi m3 17 (ln 17) a0 (-1 : Int32) (fun m4 => some (v2, m4)))))
set_option maxHeartbeats 4000000 in
set_option maxRecDepth 100000 in
theorem c_NC_free (a0 : Int32)  (m : Me) (r : Int32) (m' : Me) (h : f_NC_free a0 m = some (r, m')) : Ct yX7_free cX7_free 3 (some .int) 3 (fun ad => [.ref (ad 0), .int a0]) m (fun ad => (some (.int r), m')) := by
  refine mk_ct (F := f_NC_free a0 m) (fun _ => oI) (r, m') h (fun _ => rfl) (by decide) (fun _ => Nat.le_of_ble_eq_true rfl) ?_
  intro X hX hE
  show J X oI (f_NC_free a0 m) m 0 [(0, rX X 0), (1, .int a0)] []
  unfold f_NC_free
  refine r_aload_n (pc := 0) hX 0 dX7_free_0 rfl rfl ?_
  refine r_getR (pc := 1) hX dX7_free_1 fp7_10 k0 rfl g0_0 ?_
  refine r_iload_n (pc := 4) hX 1 dX7_free_4 rfl rfl ?_
  refine r_cvP (st := []) (pc := 5) hX dX7_free_5 MI_Chart_has MV_Chart_has lkX7_94 k10 (c_Chart_has a0 m) rfl rfl (Nat.le_of_ble_eq_true rfl) (by decide) (fun v1 => ?_)
  refine r_if_ne (tgt := 14) (pc := 8) hX dX7_free_8 (by decide) ?_ ?_
  · skip
    refine r_aload_n (pc := 14) hX 0 dX7_free_14 rfl rfl ?_
    refine r_getR (pc := 15) hX dX7_free_15 fp7_10 k0 rfl g0_0 ?_
    refine r_getR (pc := 18) hX dX7_free_18 fp7_190 k10 rfl g10_8 ?_
    refine r_iload_n (pc := 21) hX 1 dX7_free_21 rfl rfl ?_
    refine r_iald (pc := 22) hX dX7_free_22 k17 (fun v2 => ?_)
    refine r_istore_n (L' := [(2, .int v2), (0, rX X 0), (1, .int a0)]) (pc := 23) hX dX7_free_23 rfl (by decide) rfl ?_
    refine r_iload_n (pc := 24) hX 0 dX7_free_24 rfl rfl ?_
    refine r_iconst (pc := 25) hX dX7_free_25 ic_m1 ?_
    refine r_icmp_ne (tgt := 32) (pc := 26) hX dX7_free_26 (by decide) ?_ ?_
    · skip
      refine r_aload_n (pc := 32) hX 1 dX7_free_32 rfl rfl ?_
      refine r_getR (pc := 33) hX dX7_free_33 fp7_19 k0 rfl g0_1 ?_
      refine r_aload_n (pc := 36) hX 1 dX7_free_36 rfl rfl ?_
      refine r_getR (pc := 37) hX dX7_free_37 fp7_10 k0 rfl g0_0 ?_
      refine r_cvV (st := []) (pc := 40) hX dX7_free_40 MI_Hist_keep MV_Hist_keep lkX7_186 k1 (c_Hist_keep m) rfl rfl (Nat.le_of_ble_eq_true rfl) (by decide) (fun m3 => ?_)
      refine r_aload_n (pc := 43) hX 1 dX7_free_43 rfl rfl ?_
      refine r_getR (pc := 44) hX dX7_free_44 fp7_10 k0 rfl g0_0 ?_
      refine r_getR (pc := 47) hX dX7_free_47 fp7_190 k10 rfl g10_8 ?_
      refine r_iload_n (pc := 50) hX 2 dX7_free_50 rfl rfl ?_
      refine r_iconst (pc := 51) hX dX7_free_51 ic_m1 ?_
      refine r_iast (pc := 52) hX dX7_free_52 k17 (fun m4 => ?_)
      refine r_iload_n (pc := 53) hX 0 dX7_free_53 rfl rfl ?_
      exact r_iretI (pc := 54) hX hE dX7_free_54
    · skip
      refine r_bipush (pc := 29) hX dX7_free_29 bp_m4 ?_
      exact r_iretI (pc := 31) hX hE dX7_free_31
  · skip
    refine r_bipush (pc := 11) hX dX7_free_11 bp_m3 ?_
    exact r_iretI (pc := 13) hX hE dX7_free_13
def f_NC_chosen (a0 : Int32) (m : Me) : Option Int32 := cP (f_Chart_has a0 m) (fun v1 => if v1 = 0 then some (-3 : Int32) else rd (ln 17) a0 (m.1 17) (fun v2 => some v2))
set_option maxHeartbeats 4000000 in
set_option maxRecDepth 100000 in
theorem c_NC_chosen (a0 : Int32)  (m : Me) (r : Int32) (h : f_NC_chosen a0 m = some r) : Ct yX7_chosen cX7_chosen 2 (some .int) 1 (fun ad => [.ref (ad 0), .int a0]) m (fun ad => (some (.int r), m)) := by
  refine mk_ct (F := f_NC_chosen a0 m) (fun _ => oP m) r h (fun _ => rfl) (by decide) (fun _ => Nat.le_of_ble_eq_true rfl) ?_
  intro X hX hE
  show J X (oP m) (f_NC_chosen a0 m) m 0 [(0, rX X 0), (1, .int a0)] []
  unfold f_NC_chosen
  refine r_aload_n (pc := 0) hX 0 dX7_chosen_0 rfl rfl ?_
  refine r_getR (pc := 1) hX dX7_chosen_1 fp7_10 k0 rfl g0_0 ?_
  refine r_iload_n (pc := 4) hX 1 dX7_chosen_4 rfl rfl ?_
  refine r_cvP (st := []) (pc := 5) hX dX7_chosen_5 MI_Chart_has MV_Chart_has lkX7_94 k10 (c_Chart_has a0 m) rfl rfl (Nat.le_of_ble_eq_true rfl) (by decide) (fun v1 => ?_)
  refine r_if_eq (tgt := 23) (pc := 8) hX dX7_chosen_8 (by decide) ?_ ?_
  · skip
    refine r_bipush (pc := 23) hX dX7_chosen_23 bp_m3 ?_
    exact r_iretP (pc := 25) hX hE dX7_chosen_25
  · skip
    refine r_aload_n (pc := 11) hX 0 dX7_chosen_11 rfl rfl ?_
    refine r_getR (pc := 12) hX dX7_chosen_12 fp7_10 k0 rfl g0_0 ?_
    refine r_getR (pc := 15) hX dX7_chosen_15 fp7_190 k10 rfl g10_8 ?_
    refine r_iload_n (pc := 18) hX 1 dX7_chosen_18 rfl rfl ?_
    refine r_iald (pc := 19) hX dX7_chosen_19 k17 (fun v2 => ?_)
    refine r_goto (tgt := 25) (pc := 20) hX dX7_chosen_20 (by decide) ?_
    exact r_iretP (pc := 25) hX hE dX7_chosen_25
def lb_NC_firstShut_2 (m : Me) (s2 : Int32 → Option Int32) (v1 : Int32) : Option Int32 := if (m.1 10 0) ≤ v1 then some (-1 : Int32) else rd (ln 17) v1 (m.1 17) (fun v2 => bd (bd (v1 + 1) (fun v3 => (s2 v3))) (fun k48_ => if v2 = (-1 : Int32) then (k48_) else rd (ln 17) v1 (m.1 17) (fun v4 => cP (f_Lay_isOpen v1 v4 m) (fun v5 => if v5 = 0 then some v1 else (k48_)))))
def f_NC_firstShut  (m : Me) : Option Int32 := ((fx (lb_NC_firstShut_2 m) (fun _ => none) FU) (0 : Int32))
set_option maxHeartbeats 4000000 in
set_option maxRecDepth 100000 in
theorem c_NC_firstShut   (m : Me) (r : Int32) (h : f_NC_firstShut  m = some r) : Ct yX7_firstShut cX7_firstShut 2 (some .int) 1 (fun ad => [.ref (ad 0)]) m (fun ad => (some (.int r), m)) := by
  refine mk_ct (F := f_NC_firstShut  m) (fun _ => oP m) r h (fun _ => rfl) (by decide) (fun _ => Nat.le_of_ble_eq_true rfl) ?_
  intro X hX hE
  show J X (oP m) (f_NC_firstShut  m) m 0 [(0, rX X 0)] []
  unfold f_NC_firstShut
  refine r_iconst (pc := 0) hX dX7_firstShut_0 ic_0 ?_
  refine r_istore_n (L' := [(1, .int (0 : Int32)), (0, rX X 0)]) (pc := 1) hX dX7_firstShut_1 rfl (by decide) rfl ?_
  have hl2 : ∀ n : Nat, ∀ (v1 : Int32), J X (oP m) (fx (lb_NC_firstShut_2 m) (fun _ => none) n v1) m 2 [(0, rX X 0), (1, .int v1)] [] := by
    refine fx_ind (fun (f : Int32 → Option Int32) => ∀ (v1 : Int32), J X (oP m) (f v1) m 2 [(0, rX X 0), (1, .int v1)] []) (fun _ => r_none) ?_
    intro s2 hs2 v1
    unfold lb_NC_firstShut_2
    refine r_iload_n (pc := 2) hX 1 dX7_firstShut_2 rfl rfl ?_
    refine r_aload_n (pc := 3) hX 0 dX7_firstShut_3 rfl rfl ?_
    refine r_getR (pc := 4) hX dX7_firstShut_4 fp7_10 k0 rfl g0_0 ?_
    refine r_getI (pc := 7) hX dX7_firstShut_7 fp7_76 k10 (by decide) ?_
    refine r_icmp_ge (tgt := 54) (pc := 10) hX dX7_firstShut_10 (by decide) ?_ ?_
    · skip
      refine r_iconst (pc := 54) hX dX7_firstShut_54 ic_m1 ?_
      exact r_iretP (pc := 55) hX hE dX7_firstShut_55
    · skip
      refine r_aload_n (pc := 13) hX 0 dX7_firstShut_13 rfl rfl ?_
      refine r_getR (pc := 14) hX dX7_firstShut_14 fp7_10 k0 rfl g0_0 ?_
      refine r_getR (pc := 17) hX dX7_firstShut_17 fp7_190 k10 rfl g10_8 ?_
      refine r_iload_n (pc := 20) hX 1 dX7_firstShut_20 rfl rfl ?_
      refine r_iald (pc := 21) hX dX7_firstShut_21 k17 (fun v2 => ?_)
      refine r_iconst (pc := 22) hX dX7_firstShut_22 ic_m1 ?_
      refine r_join (P := fun k => J X (oP m) (k) m 48 [(0, rX X 0), (1, .int v1)] []) ?_ ?_
      · skip
        refine r_iincN (L' := fun w => [(1, .int w), (0, rX X 0)]) (pc := 48) hX 1 dX7_firstShut_48 rfl rfl (by decide) (fun _ => rfl) (fun v3 => ?_)
        refine r_goto (tgt := 2) (pc := 51) hX dX7_firstShut_51 (by decide) ?_
        exact r_sub [1, 0] rfl (hs2 v3)
      intro k48_ hk48_
      refine r_icmp_eq (tgt := 48) (pc := 23) hX dX7_firstShut_23 (by decide) ?_ ?_
      · skip
        exact hk48_
      · skip
        refine r_aload_n (pc := 26) hX 0 dX7_firstShut_26 rfl rfl ?_
        refine r_getR (pc := 27) hX dX7_firstShut_27 fp7_26 k0 rfl g0_2 ?_
        refine r_iload_n (pc := 30) hX 1 dX7_firstShut_30 rfl rfl ?_
        refine r_aload_n (pc := 31) hX 0 dX7_firstShut_31 rfl rfl ?_
        refine r_getR (pc := 32) hX dX7_firstShut_32 fp7_10 k0 rfl g0_0 ?_
        refine r_getR (pc := 35) hX dX7_firstShut_35 fp7_190 k10 rfl g10_8 ?_
        refine r_iload_n (pc := 38) hX 1 dX7_firstShut_38 rfl rfl ?_
        refine r_iald (pc := 39) hX dX7_firstShut_39 k17 (fun v4 => ?_)
        refine r_cvP (st := []) (pc := 40) hX dX7_firstShut_40 MI_Lay_isOpen MV_Lay_isOpen lkX7_298 k3 (c_Lay_isOpen v1 v4 m) rfl rfl (Nat.le_of_ble_eq_true rfl) (by decide) (fun v5 => ?_)
        refine r_if_ne (tgt := 48) (pc := 43) hX dX7_firstShut_43 (by decide) ?_ ?_
        · skip
          exact hk48_
        · skip
          refine r_iload_n (pc := 46) hX 1 dX7_firstShut_46 rfl rfl ?_
          exact r_iretP (pc := 47) hX hE dX7_firstShut_47
  exact r_sub [1, 0] rfl (hl2 FU (0 : Int32))
def lb_NC_firstHit_14 (a0 : Int32) (a2 : Nat) (m : Me) (b1 : Nat) (s14 : Int32 → Option Int32) (v2 : Int32) : Option Int32 := if (m.1 10 0) ≤ v2 then some (-1 : Int32) else bd (bd (v2 + 1) (fun v3 => (s14 v3))) (fun k64_ => if v2 = a0 then (k64_) else rd (ln a2) v2 (m.1 a2) (fun v4 => if v4 = (-1 : Int32) then (k64_) else rd (ln a2) v2 (m.1 a2) (fun v5 => cP (f_Lay_boxOf v2 v5 m) (fun b6 => cP (f_Box_hits b1 b6 m) (fun v7 => if v7 = 0 then (k64_) else some v2)))))
def f_NC_firstHit (a0 : Int32) (a1 : Int32) (a2 : Nat) (m : Me) : Option Int32 := cP (f_Lay_boxOf a0 a1 m) (fun b1 => ((fx (lb_NC_firstHit_14 a0 a2 m b1) (fun _ => none) FU) (0 : Int32)))
set_option maxHeartbeats 4000000 in
set_option maxRecDepth 100000 in
theorem c_NC_firstHit (a0 : Int32) (a1 : Int32) (a2 : Nat) (ha2 : kd a2 = 20) (m : Me) (r : Int32) (h : f_NC_firstHit a0 a1 a2 m = some r) : Ct yX7_firstHit cX7_firstHit 6 (some .int) 3 (fun ad => [.ref (ad 0), .int a0, .int a1, .ref (ad a2)]) m (fun ad => (some (.int r), m)) := by
  refine mk_ct (F := f_NC_firstHit a0 a1 a2 m) (fun _ => oP m) r h (fun _ => rfl) (by decide) (fun _ => Nat.le_of_ble_eq_true rfl) ?_
  intro X hX hE
  show J X (oP m) (f_NC_firstHit a0 a1 a2 m) m 0 [(0, rX X 0), (1, .int a0), (2, .int a1), (3, rX X a2)] []
  unfold f_NC_firstHit
  refine r_aload_n (pc := 0) hX 0 dX7_firstHit_0 rfl rfl ?_
  refine r_getR (pc := 1) hX dX7_firstHit_1 fp7_26 k0 rfl g0_2 ?_
  refine r_iload_n (pc := 4) hX 1 dX7_firstHit_4 rfl rfl ?_
  refine r_iload_n (pc := 5) hX 2 dX7_firstHit_5 rfl rfl ?_
  refine r_cvR (st := []) (pc := 6) hX dX7_firstHit_6 MI_Lay_boxOf MV_Lay_boxOf lkX7_256 k3 (c_Lay_boxOf a0 a1 m) rfl rfl (Nat.le_of_ble_eq_true rfl) (by decide) (fun b1 eb1 => ?_)
  have hb1 : kd b1 = 0 := p_Lay_boxOf _ _ _ _ eb1
  refine r_astore (L' := [(4, rX X b1), (0, rX X 0), (1, .int a0), (2, .int a1), (3, rX X a2)]) (pc := 9) hX dX7_firstHit_9 (by decide) rfl ?_
  refine r_iconst (pc := 11) hX dX7_firstHit_11 ic_0 ?_
  refine r_istore (L' := [(5, .int (0 : Int32)), (4, rX X b1), (0, rX X 0), (1, .int a0), (2, .int a1), (3, rX X a2)]) (pc := 12) hX dX7_firstHit_12 (by decide) rfl ?_
  have hl14 : ∀ n : Nat, ∀ (v2 : Int32), J X (oP m) (fx (lb_NC_firstHit_14 a0 a2 m b1) (fun _ => none) n v2) m 14 [(0, rX X 0), (1, .int a0), (3, rX X a2), (4, rX X b1), (5, .int v2)] [] := by
    refine fx_ind (fun (f : Int32 → Option Int32) => ∀ (v2 : Int32), J X (oP m) (f v2) m 14 [(0, rX X 0), (1, .int a0), (3, rX X a2), (4, rX X b1), (5, .int v2)] []) (fun _ => r_none) ?_
    intro s14 hs14 v2
    unfold lb_NC_firstHit_14
    refine r_iload (pc := 14) hX 4 dX7_firstHit_14 rfl ?_
    refine r_aload_n (pc := 16) hX 0 dX7_firstHit_16 rfl rfl ?_
    refine r_getR (pc := 17) hX dX7_firstHit_17 fp7_10 k0 rfl g0_0 ?_
    refine r_getI (pc := 20) hX dX7_firstHit_20 fp7_76 k10 (by decide) ?_
    refine r_icmp_ge (tgt := 70) (pc := 23) hX dX7_firstHit_23 (by decide) ?_ ?_
    · skip
      refine r_iconst (pc := 70) hX dX7_firstHit_70 ic_m1 ?_
      exact r_iretP (pc := 71) hX hE dX7_firstHit_71
    · skip
      refine r_iload (pc := 26) hX 4 dX7_firstHit_26 rfl ?_
      refine r_iload_n (pc := 28) hX 1 dX7_firstHit_28 rfl rfl ?_
      refine r_join (P := fun k => J X (oP m) (k) m 64 [(0, rX X 0), (1, .int a0), (3, rX X a2), (4, rX X b1), (5, .int v2)] []) ?_ ?_
      · skip
        refine r_iincN (L' := fun w => [(5, .int w), (0, rX X 0), (1, .int a0), (3, rX X a2), (4, rX X b1)]) (pc := 64) hX 4 dX7_firstHit_64 rfl rfl (by decide) (fun _ => rfl) (fun v3 => ?_)
        refine r_goto (tgt := 14) (pc := 67) hX dX7_firstHit_67 (by decide) ?_
        exact r_sub [1, 2, 3, 4, 0] rfl (hs14 v3)
      intro k64_ hk64_
      refine r_icmp_eq (tgt := 64) (pc := 29) hX dX7_firstHit_29 (by decide) ?_ ?_
      · skip
        exact hk64_
      · skip
        refine r_aload_n (pc := 32) hX 2 dX7_firstHit_32 rfl rfl ?_
        refine r_iload (pc := 33) hX 4 dX7_firstHit_33 rfl ?_
        refine r_iald (pc := 35) hX dX7_firstHit_35 ha2 (fun v4 => ?_)
        refine r_iconst (pc := 36) hX dX7_firstHit_36 ic_m1 ?_
        refine r_icmp_eq (tgt := 64) (pc := 37) hX dX7_firstHit_37 (by decide) ?_ ?_
        · skip
          exact hk64_
        · skip
          refine r_aload (pc := 40) hX 3 dX7_firstHit_40 rfl ?_
          refine r_aload_n (pc := 42) hX 0 dX7_firstHit_42 rfl rfl ?_
          refine r_getR (pc := 43) hX dX7_firstHit_43 fp7_26 k0 rfl g0_2 ?_
          refine r_iload (pc := 46) hX 4 dX7_firstHit_46 rfl ?_
          refine r_aload_n (pc := 48) hX 2 dX7_firstHit_48 rfl rfl ?_
          refine r_iload (pc := 49) hX 4 dX7_firstHit_49 rfl ?_
          refine r_iald (pc := 51) hX dX7_firstHit_51 ha2 (fun v5 => ?_)
          refine r_cvR (st := [rX X b1]) (pc := 52) hX dX7_firstHit_52 MI_Lay_boxOf MV_Lay_boxOf lkX7_256 k3 (c_Lay_boxOf v2 v5 m) rfl rfl (Nat.le_of_ble_eq_true rfl) (by decide) (fun b6 eb6 => ?_)
          have hb6 : kd b6 = 0 := p_Lay_boxOf _ _ _ _ eb6
          refine r_cvP (st := []) (pc := 55) hX dX7_firstHit_55 MI_Box_hits MV_Box_hits lkX7_168 hb1 (c_Box_hits b1 b6 hb1 hb6 m) rfl rfl (Nat.le_of_ble_eq_true rfl) (by decide) (fun v7 => ?_)
          refine r_if_eq (tgt := 64) (pc := 58) hX dX7_firstHit_58 (by decide) ?_ ?_
          · skip
            exact hk64_
          · skip
            refine r_iload (pc := 61) hX 4 dX7_firstHit_61 rfl ?_
            exact r_iretP (pc := 63) hX hE dX7_firstHit_63
  exact r_sub [2, 3, 5, 1, 0] rfl (hl14 FU (0 : Int32))
def lb_NC_firstClashing_2 (m : Me) (s2 : Int32 → Option Int32) (v1 : Int32) : Option Int32 := if (m.1 10 0) ≤ v1 then some (-1 : Int32) else rd (ln 17) v1 (m.1 17) (fun v2 => bd (bd (v1 + 1) (fun v3 => (s2 v3))) (fun k53_ => if v2 = (-1 : Int32) then (k53_) else rd (ln 17) v1 (m.1 17) (fun v4 => cP (f_NC_firstHit v1 v4 17 m) (fun v5 => if v5 = (-1 : Int32) then (k53_) else some v1))))
def f_NC_firstClashing  (m : Me) : Option Int32 := ((fx (lb_NC_firstClashing_2 m) (fun _ => none) FU) (0 : Int32))
set_option maxHeartbeats 4000000 in
set_option maxRecDepth 100000 in
theorem c_NC_firstClashing   (m : Me) (r : Int32) (h : f_NC_firstClashing  m = some r) : Ct yX7_firstClashing cX7_firstClashing 2 (some .int) 4 (fun ad => [.ref (ad 0)]) m (fun ad => (some (.int r), m)) := by
  refine mk_ct (F := f_NC_firstClashing  m) (fun _ => oP m) r h (fun _ => rfl) (by decide) (fun _ => Nat.le_of_ble_eq_true rfl) ?_
  intro X hX hE
  show J X (oP m) (f_NC_firstClashing  m) m 0 [(0, rX X 0)] []
  unfold f_NC_firstClashing
  refine r_iconst (pc := 0) hX dX7_firstClashing_0 ic_0 ?_
  refine r_istore_n (L' := [(1, .int (0 : Int32)), (0, rX X 0)]) (pc := 1) hX dX7_firstClashing_1 rfl (by decide) rfl ?_
  have hl2 : ∀ n : Nat, ∀ (v1 : Int32), J X (oP m) (fx (lb_NC_firstClashing_2 m) (fun _ => none) n v1) m 2 [(0, rX X 0), (1, .int v1)] [] := by
    refine fx_ind (fun (f : Int32 → Option Int32) => ∀ (v1 : Int32), J X (oP m) (f v1) m 2 [(0, rX X 0), (1, .int v1)] []) (fun _ => r_none) ?_
    intro s2 hs2 v1
    unfold lb_NC_firstClashing_2
    refine r_iload_n (pc := 2) hX 1 dX7_firstClashing_2 rfl rfl ?_
    refine r_aload_n (pc := 3) hX 0 dX7_firstClashing_3 rfl rfl ?_
    refine r_getR (pc := 4) hX dX7_firstClashing_4 fp7_10 k0 rfl g0_0 ?_
    refine r_getI (pc := 7) hX dX7_firstClashing_7 fp7_76 k10 (by decide) ?_
    refine r_icmp_ge (tgt := 59) (pc := 10) hX dX7_firstClashing_10 (by decide) ?_ ?_
    · skip
      refine r_iconst (pc := 59) hX dX7_firstClashing_59 ic_m1 ?_
      exact r_iretP (pc := 60) hX hE dX7_firstClashing_60
    · skip
      refine r_aload_n (pc := 13) hX 0 dX7_firstClashing_13 rfl rfl ?_
      refine r_getR (pc := 14) hX dX7_firstClashing_14 fp7_10 k0 rfl g0_0 ?_
      refine r_getR (pc := 17) hX dX7_firstClashing_17 fp7_190 k10 rfl g10_8 ?_
      refine r_iload_n (pc := 20) hX 1 dX7_firstClashing_20 rfl rfl ?_
      refine r_iald (pc := 21) hX dX7_firstClashing_21 k17 (fun v2 => ?_)
      refine r_iconst (pc := 22) hX dX7_firstClashing_22 ic_m1 ?_
      refine r_join (P := fun k => J X (oP m) (k) m 53 [(0, rX X 0), (1, .int v1)] []) ?_ ?_
      · skip
        refine r_iincN (L' := fun w => [(1, .int w), (0, rX X 0)]) (pc := 53) hX 1 dX7_firstClashing_53 rfl rfl (by decide) (fun _ => rfl) (fun v3 => ?_)
        refine r_goto (tgt := 2) (pc := 56) hX dX7_firstClashing_56 (by decide) ?_
        exact r_sub [1, 0] rfl (hs2 v3)
      intro k53_ hk53_
      refine r_icmp_eq (tgt := 53) (pc := 23) hX dX7_firstClashing_23 (by decide) ?_ ?_
      · skip
        exact hk53_
      · skip
        refine r_aload_n (pc := 26) hX 0 dX7_firstClashing_26 rfl rfl ?_
        refine r_iload_n (pc := 27) hX 1 dX7_firstClashing_27 rfl rfl ?_
        refine r_aload_n (pc := 28) hX 0 dX7_firstClashing_28 rfl rfl ?_
        refine r_getR (pc := 29) hX dX7_firstClashing_29 fp7_10 k0 rfl g0_0 ?_
        refine r_getR (pc := 32) hX dX7_firstClashing_32 fp7_190 k10 rfl g10_8 ?_
        refine r_iload_n (pc := 35) hX 1 dX7_firstClashing_35 rfl rfl ?_
        refine r_iald (pc := 36) hX dX7_firstClashing_36 k17 (fun v4 => ?_)
        refine r_aload_n (pc := 37) hX 0 dX7_firstClashing_37 rfl rfl ?_
        refine r_getR (pc := 38) hX dX7_firstClashing_38 fp7_10 k0 rfl g0_0 ?_
        refine r_getR (pc := 41) hX dX7_firstClashing_41 fp7_190 k10 rfl g10_8 ?_
        refine r_cvP (st := []) (pc := 44) hX dX7_firstClashing_44 MI_NC_firstHit MV_NC_firstHit lkX7_240 k0 (c_NC_firstHit v1 v4 17 k17 m) rfl rfl (Nat.le_of_ble_eq_true rfl) (by decide) (fun v5 => ?_)
        refine r_iconst (pc := 47) hX dX7_firstClashing_47 ic_m1 ?_
        refine r_icmp_eq (tgt := 53) (pc := 48) hX dX7_firstClashing_48 (by decide) ?_ ?_
        · skip
          exact hk53_
        · skip
          refine r_iload_n (pc := 51) hX 1 dX7_firstClashing_51 rfl rfl ?_
          exact r_iretP (pc := 52) hX hE dX7_firstClashing_52
  exact r_sub [1, 0] rfl (hl2 FU (0 : Int32))
def lb_NC_firstMissing_2 (m : Me) (s2 : Int32 → Option Int32) (v1 : Int32) : Option Int32 := if (m.1 10 0) ≤ v1 then some (-1 : Int32) else rd (ln 11) v1 (m.1 11) (fun v2 => bd (bd (v1 + 1) (fun v3 => (s2 v3))) (fun k41_ => if v2 = (3 : Int32) then rd (ln 17) v1 (m.1 17) (fun v4 => if v4 = (-1 : Int32) then some v1 else (k41_)) else (k41_)))
def f_NC_firstMissing  (m : Me) : Option Int32 := ((fx (lb_NC_firstMissing_2 m) (fun _ => none) FU) (0 : Int32))
set_option maxHeartbeats 4000000 in
set_option maxRecDepth 100000 in
theorem c_NC_firstMissing   (m : Me) (r : Int32) (h : f_NC_firstMissing  m = some r) : Ct yX7_firstMissing cX7_firstMissing 2 (some .int) 0 (fun ad => [.ref (ad 0)]) m (fun ad => (some (.int r), m)) := by
  refine mk_ct (F := f_NC_firstMissing  m) (fun _ => oP m) r h (fun _ => rfl) (by decide) (fun _ => Nat.le_of_ble_eq_true rfl) ?_
  intro X hX hE
  show J X (oP m) (f_NC_firstMissing  m) m 0 [(0, rX X 0)] []
  unfold f_NC_firstMissing
  refine r_iconst (pc := 0) hX dX7_firstMissing_0 ic_0 ?_
  refine r_istore_n (L' := [(1, .int (0 : Int32)), (0, rX X 0)]) (pc := 1) hX dX7_firstMissing_1 rfl (by decide) rfl ?_
  have hl2 : ∀ n : Nat, ∀ (v1 : Int32), J X (oP m) (fx (lb_NC_firstMissing_2 m) (fun _ => none) n v1) m 2 [(0, rX X 0), (1, .int v1)] [] := by
    refine fx_ind (fun (f : Int32 → Option Int32) => ∀ (v1 : Int32), J X (oP m) (f v1) m 2 [(0, rX X 0), (1, .int v1)] []) (fun _ => r_none) ?_
    intro s2 hs2 v1
    unfold lb_NC_firstMissing_2
    refine r_iload_n (pc := 2) hX 1 dX7_firstMissing_2 rfl rfl ?_
    refine r_aload_n (pc := 3) hX 0 dX7_firstMissing_3 rfl rfl ?_
    refine r_getR (pc := 4) hX dX7_firstMissing_4 fp7_10 k0 rfl g0_0 ?_
    refine r_getI (pc := 7) hX dX7_firstMissing_7 fp7_76 k10 (by decide) ?_
    refine r_icmp_ge (tgt := 47) (pc := 10) hX dX7_firstMissing_10 (by decide) ?_ ?_
    · skip
      refine r_iconst (pc := 47) hX dX7_firstMissing_47 ic_m1 ?_
      exact r_iretP (pc := 48) hX hE dX7_firstMissing_48
    · skip
      refine r_aload_n (pc := 13) hX 0 dX7_firstMissing_13 rfl rfl ?_
      refine r_getR (pc := 14) hX dX7_firstMissing_14 fp7_10 k0 rfl g0_0 ?_
      refine r_getR (pc := 17) hX dX7_firstMissing_17 fp7_116 k10 rfl g10_2 ?_
      refine r_iload_n (pc := 20) hX 1 dX7_firstMissing_20 rfl rfl ?_
      refine r_iald (pc := 21) hX dX7_firstMissing_21 k11 (fun v2 => ?_)
      refine r_iconst (pc := 22) hX dX7_firstMissing_22 ic_3 ?_
      refine r_join (P := fun k => J X (oP m) (k) m 41 [(0, rX X 0), (1, .int v1)] []) ?_ ?_
      · skip
        refine r_iincN (L' := fun w => [(1, .int w), (0, rX X 0)]) (pc := 41) hX 1 dX7_firstMissing_41 rfl rfl (by decide) (fun _ => rfl) (fun v3 => ?_)
        refine r_goto (tgt := 2) (pc := 44) hX dX7_firstMissing_44 (by decide) ?_
        exact r_sub [1, 0] rfl (hs2 v3)
      intro k41_ hk41_
      refine r_icmp_ne (tgt := 41) (pc := 23) hX dX7_firstMissing_23 (by decide) ?_ ?_
      · skip
        exact hk41_
      · skip
        refine r_aload_n (pc := 26) hX 0 dX7_firstMissing_26 rfl rfl ?_
        refine r_getR (pc := 27) hX dX7_firstMissing_27 fp7_10 k0 rfl g0_0 ?_
        refine r_getR (pc := 30) hX dX7_firstMissing_30 fp7_190 k10 rfl g10_8 ?_
        refine r_iload_n (pc := 33) hX 1 dX7_firstMissing_33 rfl rfl ?_
        refine r_iald (pc := 34) hX dX7_firstMissing_34 k17 (fun v4 => ?_)
        refine r_iconst (pc := 35) hX dX7_firstMissing_35 ic_m1 ?_
        refine r_icmp_ne (tgt := 41) (pc := 36) hX dX7_firstMissing_36 (by decide) ?_ ?_
        · skip
          exact hk41_
        · skip
          refine r_iload_n (pc := 39) hX 1 dX7_firstMissing_39 rfl rfl ?_
          exact r_iretP (pc := 40) hX hE dX7_firstMissing_40
  exact r_sub [1, 0] rfl (hl2 FU (0 : Int32))
def f_NC_check  (m : Me) : Option (Int32 × Me) := cP (f_NC_layOut m) (fun m1 => cP (f_NC_firstShut m1) (fun v2 => if v2 = (-1 : Int32) then cP (f_NC_firstClashing m1) (fun v3 => if v3 = (-1 : Int32) then cP (f_NC_firstMissing m1) (fun v4 => if v4 = (-1 : Int32) then some ((0 : Int32), m1) else some (((300 : Int32) + v4), m1)) else some (((200 : Int32) + v3), m1)) else some (((100 : Int32) + v2), m1)))
set_option maxHeartbeats 4000000 in
set_option maxRecDepth 100000 in
theorem c_NC_check   (m : Me) (r : Int32) (m' : Me) (h : f_NC_check  m = some (r, m')) : Ct yX7_check cX7_check 4 (some .int) 5 (fun ad => [.ref (ad 0)]) m (fun ad => (some (.int r), m')) := by
  refine mk_ct (F := f_NC_check  m) (fun _ => oI) (r, m') h (fun _ => rfl) (by decide) (fun _ => Nat.le_of_ble_eq_true rfl) ?_
  intro X hX hE
  show J X oI (f_NC_check  m) m 0 [(0, rX X 0)] []
  unfold f_NC_check
  refine r_aload_n (pc := 0) hX 0 dX7_check_0 rfl rfl ?_
  refine r_cvV (st := []) (pc := 1) hX dX7_check_1 MI_NC_layOut MV_NC_layOut lkX7_172 k0 (c_NC_layOut m) rfl rfl (Nat.le_of_ble_eq_true rfl) (by decide) (fun m1 => ?_)
  refine r_aload_n (pc := 4) hX 0 dX7_check_4 rfl rfl ?_
  refine r_cvP (st := []) (pc := 5) hX dX7_check_5 MI_NC_firstShut MV_NC_firstShut lkX7_193 k0 (c_NC_firstShut m1) rfl rfl (Nat.le_of_ble_eq_true rfl) (by decide) (fun v2 => ?_)
  refine r_istore_n (L' := [(1, .int v2), (0, rX X 0)]) (pc := 8) hX dX7_check_8 rfl (by decide) rfl ?_
  refine r_iload_n (pc := 9) hX 0 dX7_check_9 rfl rfl ?_
  refine r_iconst (pc := 10) hX dX7_check_10 ic_m1 ?_
  refine r_icmp_eq (tgt := 19) (pc := 11) hX dX7_check_11 (by decide) ?_ ?_
  · skip
    refine r_aload_n (pc := 19) hX 1 dX7_check_19 rfl rfl ?_
    refine r_cvP (st := []) (pc := 20) hX dX7_check_20 MI_NC_firstClashing MV_NC_firstClashing lkX7_197 k0 (c_NC_firstClashing m1) rfl rfl (Nat.le_of_ble_eq_true rfl) (by decide) (fun v3 => ?_)
    refine r_istore_n (L' := [(2, .int v3), (1, .int v2), (0, rX X 0)]) (pc := 23) hX dX7_check_23 rfl (by decide) rfl ?_
    refine r_iload_n (pc := 24) hX 0 dX7_check_24 rfl rfl ?_
    refine r_iconst (pc := 25) hX dX7_check_25 ic_m1 ?_
    refine r_icmp_eq (tgt := 35) (pc := 26) hX dX7_check_26 (by decide) ?_ ?_
    · skip
      refine r_aload_n (pc := 35) hX 2 dX7_check_35 rfl rfl ?_
      refine r_cvP (st := []) (pc := 36) hX dX7_check_36 MI_NC_firstMissing MV_NC_firstMissing lkX7_200 k0 (c_NC_firstMissing m1) rfl rfl (Nat.le_of_ble_eq_true rfl) (by decide) (fun v4 => ?_)
      refine r_istore_n (L' := [(3, .int v4), (2, .int v3), (1, .int v2), (0, rX X 0)]) (pc := 39) hX dX7_check_39 rfl (by decide) rfl ?_
      refine r_iload_n (pc := 40) hX 0 dX7_check_40 rfl rfl ?_
      refine r_iconst (pc := 41) hX dX7_check_41 ic_m1 ?_
      refine r_icmp_eq (tgt := 53) (pc := 42) hX dX7_check_42 (by decide) ?_ ?_
      · skip
        refine r_iconst (pc := 53) hX dX7_check_53 ic_0 ?_
        exact r_iretI (pc := 54) hX hE dX7_check_54
      · skip
        refine r_sipush (pc := 45) hX dX7_check_45 sp_300 ?_
        refine r_iload_n (pc := 48) hX 0 dX7_check_48 rfl rfl ?_
        refine r_iadd (pc := 49) hX dX7_check_49 ?_
        refine r_goto (tgt := 54) (pc := 50) hX dX7_check_50 (by decide) ?_
        exact r_iretI (pc := 54) hX hE dX7_check_54
    · skip
      refine r_sipush (pc := 29) hX dX7_check_29 sp_200 ?_
      refine r_iload_n (pc := 32) hX 0 dX7_check_32 rfl rfl ?_
      refine r_iadd (pc := 33) hX dX7_check_33 ?_
      exact r_iretI (pc := 34) hX hE dX7_check_34
  · skip
    refine r_bipush (pc := 14) hX dX7_check_14 bp_100 ?_
    refine r_iload_n (pc := 16) hX 0 dX7_check_16 rfl rfl ?_
    refine r_iadd (pc := 17) hX dX7_check_17 ?_
    exact r_iretI (pc := 18) hX hE dX7_check_18
def lb_NC_worth_4 (m : Me) (s4 : Int32 → Int32 → Option Int32) (v1 : Int32) (v2 : Int32) : Option Int32 := if (m.1 10 0) ≤ v2 then some v1 else rd (ln 17) v2 (m.1 17) (fun v3 => bd (fun (v4 : Int32) => bd ((v1 + v4)) (fun v5 => bd (v2 + 1) (fun v6 => (s4 v5 v6)))) (fun k50_ => if v3 = (-1 : Int32) then (k50_ (0 : Int32)) else rd (ln 17) v2 (m.1 17) (fun v7 => cP (f_Chart_gainOf v2 v7 m) (fun v8 => (k50_ v8)))))
def f_NC_worth  (m : Me) : Option Int32 := ((fx (lb_NC_worth_4 m) (fun _ _ => none) FU) (0 : Int32) (0 : Int32))
set_option maxHeartbeats 4000000 in
set_option maxRecDepth 100000 in
theorem c_NC_worth   (m : Me) (r : Int32) (h : f_NC_worth  m = some r) : Ct yX7_worth cX7_worth 3 (some .int) 2 (fun ad => [.ref (ad 0)]) m (fun ad => (some (.int r), m)) := by
  refine mk_ct (F := f_NC_worth  m) (fun _ => oP m) r h (fun _ => rfl) (by decide) (fun _ => Nat.le_of_ble_eq_true rfl) ?_
  intro X hX hE
  show J X (oP m) (f_NC_worth  m) m 0 [(0, rX X 0)] []
  unfold f_NC_worth
  refine r_iconst (pc := 0) hX dX7_worth_0 ic_0 ?_
  refine r_istore_n (L' := [(1, .int (0 : Int32)), (0, rX X 0)]) (pc := 1) hX dX7_worth_1 rfl (by decide) rfl ?_
  refine r_iconst (pc := 2) hX dX7_worth_2 ic_0 ?_
  refine r_istore_n (L' := [(2, .int (0 : Int32)), (1, .int (0 : Int32)), (0, rX X 0)]) (pc := 3) hX dX7_worth_3 rfl (by decide) rfl ?_
  have hl4 : ∀ n : Nat, ∀ (v1 : Int32) (v2 : Int32), J X (oP m) (fx (lb_NC_worth_4 m) (fun _ _ => none) n v1 v2) m 4 [(0, rX X 0), (1, .int v1), (2, .int v2)] [] := by
    refine fx_ind (fun (f : Int32 → Int32 → Option Int32) => ∀ (v1 : Int32) (v2 : Int32), J X (oP m) (f v1 v2) m 4 [(0, rX X 0), (1, .int v1), (2, .int v2)] []) (fun _ _ => r_none) ?_
    intro s4 hs4 v1 v2
    unfold lb_NC_worth_4
    refine r_iload_n (pc := 4) hX 2 dX7_worth_4 rfl rfl ?_
    refine r_aload_n (pc := 5) hX 0 dX7_worth_5 rfl rfl ?_
    refine r_getR (pc := 6) hX dX7_worth_6 fp7_10 k0 rfl g0_0 ?_
    refine r_getI (pc := 9) hX dX7_worth_9 fp7_76 k10 (by decide) ?_
    refine r_icmp_ge (tgt := 58) (pc := 12) hX dX7_worth_12 (by decide) ?_ ?_
    · skip
      refine r_iload_n (pc := 58) hX 1 dX7_worth_58 rfl rfl ?_
      exact r_iretP (pc := 59) hX hE dX7_worth_59
    · skip
      refine r_iload_n (pc := 15) hX 1 dX7_worth_15 rfl rfl ?_
      refine r_aload_n (pc := 16) hX 0 dX7_worth_16 rfl rfl ?_
      refine r_getR (pc := 17) hX dX7_worth_17 fp7_10 k0 rfl g0_0 ?_
      refine r_getR (pc := 20) hX dX7_worth_20 fp7_190 k10 rfl g10_8 ?_
      refine r_iload_n (pc := 23) hX 2 dX7_worth_23 rfl rfl ?_
      refine r_iald (pc := 24) hX dX7_worth_24 k17 (fun v3 => ?_)
      refine r_iconst (pc := 25) hX dX7_worth_25 ic_m1 ?_
      refine r_join (P := fun k => ∀ (v4 : Int32), J X (oP m) (k v4) m 50 [(0, rX X 0), (2, .int v2)] [.int v4, .int v1]) ?_ ?_
      · intro v4
        refine r_iadd (pc := 50) hX dX7_worth_50 ?_
        refine r_nmI (fun v5 => ?_)
        refine r_istore_n (L' := [(1, .int v5), (0, rX X 0), (2, .int v2)]) (pc := 51) hX dX7_worth_51 rfl (by decide) rfl ?_
        refine r_iincN (L' := fun w => [(2, .int w), (1, .int v5), (0, rX X 0)]) (pc := 52) hX 2 dX7_worth_52 rfl rfl (by decide) (fun _ => rfl) (fun v6 => ?_)
        refine r_goto (tgt := 4) (pc := 55) hX dX7_worth_55 (by decide) ?_
        exact r_sub [2, 1, 0] rfl (hs4 v5 v6)
      intro k50_ hk50_
      refine r_icmp_ne (tgt := 33) (pc := 26) hX dX7_worth_26 (by decide) ?_ ?_
      · skip
        refine r_aload_n (pc := 33) hX 0 dX7_worth_33 rfl rfl ?_
        refine r_getR (pc := 34) hX dX7_worth_34 fp7_10 k0 rfl g0_0 ?_
        refine r_iload_n (pc := 37) hX 2 dX7_worth_37 rfl rfl ?_
        refine r_aload_n (pc := 38) hX 0 dX7_worth_38 rfl rfl ?_
        refine r_getR (pc := 39) hX dX7_worth_39 fp7_10 k0 rfl g0_0 ?_
        refine r_getR (pc := 42) hX dX7_worth_42 fp7_190 k10 rfl g10_8 ?_
        refine r_iload_n (pc := 45) hX 2 dX7_worth_45 rfl rfl ?_
        refine r_iald (pc := 46) hX dX7_worth_46 k17 (fun v7 => ?_)
        refine r_cvP (st := [.int v1]) (pc := 47) hX dX7_worth_47 MI_Chart_gainOf MV_Chart_gainOf lkX7_203 k10 (c_Chart_gainOf v2 v7 m) rfl rfl (Nat.le_of_ble_eq_true rfl) (by decide) (fun v8 => ?_)
        exact r_sub [0, 2] rfl (hk50_ v8)
      · skip
        refine r_iconst (pc := 29) hX dX7_worth_29 ic_0 ?_
        refine r_goto (tgt := 50) (pc := 30) hX dX7_worth_30 (by decide) ?_
        exact r_sub [0, 2] rfl (hk50_ (0 : Int32))
  exact r_sub [2, 1, 0] rfl (hl4 FU (0 : Int32) (0 : Int32))
def f_NC_takeInHand  (m : Me) : Option Me := cP (f_Hist_keep m) (fun m1 => ac m1 109 (0 : Int32) 17 (0 : Int32) (m1.1 10 0) (fun m2 => some m2))
set_option maxHeartbeats 4000000 in
set_option maxRecDepth 100000 in
theorem c_NC_takeInHand   (m : Me) (r : Me) (h : f_NC_takeInHand  m = some r) : Ct yX7_takeInHand cX7_takeInHand 1 none 3 (fun ad => [.ref (ad 0)]) m (fun ad => (none, r)) := by
  refine mk_ct (F := f_NC_takeInHand  m) (fun _ => oV) r h (fun _ => rfl) (by decide) (fun _ => Nat.le_of_ble_eq_true rfl) ?_
  intro X hX hE
  show J X oV (f_NC_takeInHand  m) m 0 [(0, rX X 0)] []
  unfold f_NC_takeInHand
  refine r_aload_n (pc := 0) hX 0 dX7_takeInHand_0 rfl rfl ?_
  refine r_getR (pc := 1) hX dX7_takeInHand_1 fp7_19 k0 rfl g0_1 ?_
  refine r_aload_n (pc := 4) hX 0 dX7_takeInHand_4 rfl rfl ?_
  refine r_getR (pc := 5) hX dX7_takeInHand_5 fp7_10 k0 rfl g0_0 ?_
  refine r_cvV (st := []) (pc := 8) hX dX7_takeInHand_8 MI_Hist_keep MV_Hist_keep lkX7_186 k1 (c_Hist_keep m) rfl rfl (Nat.le_of_ble_eq_true rfl) (by decide) (fun m1 => ?_)
  refine r_aload_n (pc := 11) hX 0 dX7_takeInHand_11 rfl rfl ?_
  refine r_getR (pc := 12) hX dX7_takeInHand_12 fp7_61 k0 rfl g0_8 ?_
  refine r_iconst (pc := 15) hX dX7_takeInHand_15 ic_0 ?_
  refine r_aload_n (pc := 16) hX 0 dX7_takeInHand_16 rfl rfl ?_
  refine r_getR (pc := 17) hX dX7_takeInHand_17 fp7_10 k0 rfl g0_0 ?_
  refine r_getR (pc := 20) hX dX7_takeInHand_20 fp7_190 k10 rfl g10_8 ?_
  refine r_iconst (pc := 23) hX dX7_takeInHand_23 ic_0 ?_
  refine r_aload_n (pc := 24) hX 0 dX7_takeInHand_24 rfl rfl ?_
  refine r_getR (pc := 25) hX dX7_takeInHand_25 fp7_10 k0 rfl g0_0 ?_
  refine r_getI (pc := 28) hX dX7_takeInHand_28 fp7_76 k10 (by decide) ?_
  refine r_acp (st := []) (pc := 31) hX dX7_takeInHand_31 lkAC7_292 k109 k17 (Nat.le_of_ble_eq_true rfl) (by decide) (fun m2 => ?_)
  exact r_vret (pc := 34) hX hE dX7_takeInHand_34
def lb_NC_best_34 (k111_ : Int32 → Me → Option (Int32 × Me)) (s34 : Int32 → Int32 → Me → Option (Int32 × Me)) (v6 : Int32) (v7 : Int32) (m8 : Me) : Option (Int32 × Me) := if (m8.1 6 2) ≤ v7 then (k111_ v6 m8) else cP (f_Search_seat v7 110 m8) (fun m9 => cI (f_Search_mostWorth m9) (fun v10 m11 => if v10 = (-1 : Int32) then some ((-4 : Int32), m11) else cP (f_Search_pickFirst v10 109 m11) (fun m12 => bd ((v6 + v10)) (fun v13 => bd (v7 + 1) (fun v14 => (s34 v13 v14 m12))))))
def f_NC_best  (m : Me) : Option (Int32 × Me) := cP (f_NC_splitUp m) (fun m1 => if (m1.1 6 3) ≤ (7 : Int32) then cP (f_Chart_queue 110 m1) (fun m2 => bd (fun (v3 : Int32) (m4 : Me) => cP (f_NC_takeInHand m4) (fun m5 => some (v3, m5))) (fun k111_ => ((fx (lb_NC_best_34 k111_) (fun _ _ _ => none) FU) (0 : Int32) (0 : Int32) m2))) else some ((-6 : Int32), m1))
set_option maxHeartbeats 4000000 in
set_option maxRecDepth 100000 in
theorem c_NC_best   (m : Me) (r : Int32) (m' : Me) (h : f_NC_best  m = some (r, m')) : Ct yX7_best cX7_best 4 (some .int) 37 (fun ad => [.ref (ad 0)]) m (fun ad => (some (.int r), m')) := by
  refine mk_ct (F := f_NC_best  m) (fun _ => oI) (r, m') h (fun _ => rfl) (by decide) (fun _ => Nat.le_of_ble_eq_true rfl) ?_
  intro X hX hE
  show J X oI (f_NC_best  m) m 0 [(0, rX X 0)] []
  unfold f_NC_best
  refine r_aload_n (pc := 0) hX 0 dX7_best_0 rfl rfl ?_
  refine r_cvV (st := []) (pc := 1) hX dX7_best_1 MI_NC_splitUp MV_NC_splitUp lkX7_126 k0 (c_NC_splitUp m) rfl rfl (Nat.le_of_ble_eq_true rfl) (by decide) (fun m1 => ?_)
  refine r_aload_n (pc := 4) hX 0 dX7_best_4 rfl rfl ?_
  refine r_getR (pc := 5) hX dX7_best_5 fp7_33 k0 rfl g0_3 ?_
  refine r_getI (pc := 8) hX dX7_best_8 fp7_206 k6 (by decide) ?_
  refine r_bipush (pc := 11) hX dX7_best_11 bp_7 ?_
  refine r_icmp_le (tgt := 19) (pc := 13) hX dX7_best_13 (by decide) ?_ ?_
  · skip
    refine r_aload_n (pc := 19) hX 0 dX7_best_19 rfl rfl ?_
    refine r_getR (pc := 20) hX dX7_best_20 fp7_10 k0 rfl g0_0 ?_
    refine r_aload_n (pc := 23) hX 0 dX7_best_23 rfl rfl ?_
    refine r_getR (pc := 24) hX dX7_best_24 fp7_65 k0 rfl g0_9 ?_
    refine r_cvV (st := []) (pc := 27) hX dX7_best_27 MI_Chart_queue MV_Chart_queue lkX7_209 k10 (c_Chart_queue 110 k110 m1) rfl rfl (Nat.le_of_ble_eq_true rfl) (by decide) (fun m2 => ?_)
    refine r_iconst (pc := 30) hX dX7_best_30 ic_0 ?_
    refine r_istore_n (L' := [(1, .int (0 : Int32)), (0, rX X 0)]) (pc := 31) hX dX7_best_31 rfl (by decide) rfl ?_
    refine r_iconst (pc := 32) hX dX7_best_32 ic_0 ?_
    refine r_istore_n (L' := [(2, .int (0 : Int32)), (1, .int (0 : Int32)), (0, rX X 0)]) (pc := 33) hX dX7_best_33 rfl (by decide) rfl ?_
    refine r_join (P := fun k => ∀ (v3 : Int32) (m4 : Me), J X oI (k v3 m4) m4 111 [(0, rX X 0), (1, .int v3)] []) ?_ ?_
    · intro v3 m4
      refine r_aload_n (pc := 111) hX 0 dX7_best_111 rfl rfl ?_
      refine r_cvV (st := []) (pc := 112) hX dX7_best_112 MI_NC_takeInHand MV_NC_takeInHand lkX7_224 k0 (c_NC_takeInHand m4) rfl rfl (Nat.le_of_ble_eq_true rfl) (by decide) (fun m5 => ?_)
      refine r_iload_n (pc := 115) hX 1 dX7_best_115 rfl rfl ?_
      exact r_iretI (pc := 116) hX hE dX7_best_116
    intro k111_ hk111_
    have hl34 : ∀ n : Nat, ∀ (v6 : Int32) (v7 : Int32) (m8 : Me), J X oI (fx (lb_NC_best_34 k111_) (fun _ _ _ => none) n v6 v7 m8) m8 34 [(0, rX X 0), (1, .int v6), (2, .int v7)] [] := by
      refine fx_ind (fun (f : Int32 → Int32 → Me → Option (Int32 × Me)) => ∀ (v6 : Int32) (v7 : Int32) (m8 : Me), J X oI (f v6 v7 m8) m8 34 [(0, rX X 0), (1, .int v6), (2, .int v7)] []) (fun _ _ _ => r_none) ?_
      intro s34 hs34 v6 v7 m8
      unfold lb_NC_best_34
      refine r_iload_n (pc := 34) hX 2 dX7_best_34 rfl rfl ?_
      refine r_aload_n (pc := 35) hX 0 dX7_best_35 rfl rfl ?_
      refine r_getR (pc := 36) hX dX7_best_36 fp7_33 k0 rfl g0_3 ?_
      refine r_getI (pc := 39) hX dX7_best_39 fp7_183 k6 (by decide) ?_
      refine r_icmp_ge (tgt := 111) (pc := 42) hX dX7_best_42 (by decide) ?_ ?_
      · skip
        exact r_sub [0, 1] rfl (hk111_ v6 m8)
      · skip
        refine r_aload_n (pc := 45) hX 0 dX7_best_45 rfl rfl ?_
        refine r_getR (pc := 46) hX dX7_best_46 fp7_40 k0 rfl g0_4 ?_
        refine r_aload_n (pc := 49) hX 0 dX7_best_49 rfl rfl ?_
        refine r_getR (pc := 50) hX dX7_best_50 fp7_10 k0 rfl g0_0 ?_
        refine r_aload_n (pc := 53) hX 0 dX7_best_53 rfl rfl ?_
        refine r_getR (pc := 54) hX dX7_best_54 fp7_26 k0 rfl g0_2 ?_
        refine r_aload_n (pc := 57) hX 0 dX7_best_57 rfl rfl ?_
        refine r_getR (pc := 58) hX dX7_best_58 fp7_33 k0 rfl g0_3 ?_
        refine r_iload_n (pc := 61) hX 2 dX7_best_61 rfl rfl ?_
        refine r_aload_n (pc := 62) hX 0 dX7_best_62 rfl rfl ?_
        refine r_getR (pc := 63) hX dX7_best_63 fp7_65 k0 rfl g0_9 ?_
        refine r_cvV (st := []) (pc := 66) hX dX7_best_66 MI_Search_seat MV_Search_seat lkX7_213 k9 (c_Search_seat v7 110 k110 m8) rfl rfl (Nat.le_of_ble_eq_true rfl) (by decide) (fun m9 => ?_)
        refine r_aload_n (pc := 69) hX 0 dX7_best_69 rfl rfl ?_
        refine r_getR (pc := 70) hX dX7_best_70 fp7_40 k0 rfl g0_4 ?_
        refine r_cvI (st := []) (pc := 73) hX dX7_best_73 MI_Search_mostWorth MV_Search_mostWorth lkX7_217 k9 (c_Search_mostWorth m9) rfl rfl (Nat.le_of_ble_eq_true rfl) (by decide) (fun v10 m11 => ?_)
        refine r_istore_n (L' := [(3, .int v10), (0, rX X 0), (1, .int v6), (2, .int v7)]) (pc := 76) hX dX7_best_76 rfl (by decide) rfl ?_
        refine r_iload_n (pc := 77) hX 0 dX7_best_77 rfl rfl ?_
        refine r_iconst (pc := 78) hX dX7_best_78 ic_m1 ?_
        refine r_icmp_ne (tgt := 85) (pc := 79) hX dX7_best_79 (by decide) ?_ ?_
        · skip
          refine r_aload_n (pc := 85) hX 1 dX7_best_85 rfl rfl ?_
          refine r_getR (pc := 86) hX dX7_best_86 fp7_40 k0 rfl g0_4 ?_
          refine r_aload_n (pc := 89) hX 1 dX7_best_89 rfl rfl ?_
          refine r_getR (pc := 90) hX dX7_best_90 fp7_10 k0 rfl g0_0 ?_
          refine r_iload_n (pc := 93) hX 0 dX7_best_93 rfl rfl ?_
          refine r_aload_n (pc := 94) hX 1 dX7_best_94 rfl rfl ?_
          refine r_getR (pc := 95) hX dX7_best_95 fp7_61 k0 rfl g0_8 ?_
          refine r_cvV (st := []) (pc := 98) hX dX7_best_98 MI_Search_pickFirst MV_Search_pickFirst lkX7_220 k9 (c_Search_pickFirst v10 109 k109 m11) rfl rfl (Nat.le_of_ble_eq_true rfl) (by decide) (fun m12 => ?_)
          refine r_iload_n (pc := 101) hX 2 dX7_best_101 rfl rfl ?_
          refine r_iload_n (pc := 102) hX 0 dX7_best_102 rfl rfl ?_
          refine r_iadd (pc := 103) hX dX7_best_103 ?_
          refine r_nmI (fun v13 => ?_)
          refine r_istore_n (L' := [(1, .int v13), (3, .int v10), (0, rX X 0), (2, .int v7)]) (pc := 104) hX dX7_best_104 rfl (by decide) rfl ?_
          refine r_iincN (L' := fun w => [(2, .int w), (1, .int v13), (3, .int v10), (0, rX X 0)]) (pc := 105) hX 3 dX7_best_105 rfl rfl (by decide) (fun _ => rfl) (fun v14 => ?_)
          refine r_goto (tgt := 34) (pc := 108) hX dX7_best_108 (by decide) ?_
          exact r_sub [3, 1, 0] rfl (hs34 v13 v14 m12)
        · skip
          refine r_bipush (pc := 82) hX dX7_best_82 bp_m4 ?_
          exact r_iretI (pc := 84) hX hE dX7_best_84
    exact r_sub [2, 1, 0] rfl (hl34 FU (0 : Int32) (0 : Int32) m2)
  · skip
    refine r_bipush (pc := 16) hX dX7_best_16 bp_m6 ?_
    exact r_iretI (pc := 18) hX hE dX7_best_18
def lb_NC_cheapestWay_2 (a0 : Int32) (a1 : Nat) (m : Me) (s2 : Int32 → Option Int32) (v1 : Int32) : Option Int32 := cP (f_Chart_waysOf a0 m) (fun v2 => if v2 ≤ v1 then some (-1 : Int32) else cP (f_Chart_wayByPrice a0 v1 m) (fun v3 => cP (f_Lay_isOpen a0 v3 m) (fun v4 => bd (bd (v1 + 1) (fun v5 => (s2 v5))) (fun k53_ => if v4 = 0 then (k53_) else cP (f_NC_firstHit a0 v3 a1 m) (fun v6 => if v6 = (-1 : Int32) then some v3 else (k53_))))))
def f_NC_cheapestWay (a0 : Int32) (a1 : Nat) (m : Me) : Option Int32 := ((fx (lb_NC_cheapestWay_2 a0 a1 m) (fun _ => none) FU) (0 : Int32))
set_option maxHeartbeats 4000000 in
set_option maxRecDepth 100000 in
theorem c_NC_cheapestWay (a0 : Int32) (a1 : Nat) (ha1 : kd a1 = 20) (m : Me) (r : Int32) (h : f_NC_cheapestWay a0 a1 m = some r) : Ct yX7_cheapestWay cX7_cheapestWay 5 (some .int) 4 (fun ad => [.ref (ad 0), .int a0, .ref (ad a1)]) m (fun ad => (some (.int r), m)) := by
  refine mk_ct (F := f_NC_cheapestWay a0 a1 m) (fun _ => oP m) r h (fun _ => rfl) (by decide) (fun _ => Nat.le_of_ble_eq_true rfl) ?_
  intro X hX hE
  show J X (oP m) (f_NC_cheapestWay a0 a1 m) m 0 [(0, rX X 0), (1, .int a0), (2, rX X a1)] []
  unfold f_NC_cheapestWay
  refine r_iconst (pc := 0) hX dX7_cheapestWay_0 ic_0 ?_
  refine r_istore_n (L' := [(3, .int (0 : Int32)), (0, rX X 0), (1, .int a0), (2, rX X a1)]) (pc := 1) hX dX7_cheapestWay_1 rfl (by decide) rfl ?_
  have hl2 : ∀ n : Nat, ∀ (v1 : Int32), J X (oP m) (fx (lb_NC_cheapestWay_2 a0 a1 m) (fun _ => none) n v1) m 2 [(0, rX X 0), (1, .int a0), (2, rX X a1), (3, .int v1)] [] := by
    refine fx_ind (fun (f : Int32 → Option Int32) => ∀ (v1 : Int32), J X (oP m) (f v1) m 2 [(0, rX X 0), (1, .int a0), (2, rX X a1), (3, .int v1)] []) (fun _ => r_none) ?_
    intro s2 hs2 v1
    unfold lb_NC_cheapestWay_2
    refine r_iload_n (pc := 2) hX 3 dX7_cheapestWay_2 rfl rfl ?_
    refine r_aload_n (pc := 3) hX 0 dX7_cheapestWay_3 rfl rfl ?_
    refine r_getR (pc := 4) hX dX7_cheapestWay_4 fp7_10 k0 rfl g0_0 ?_
    refine r_iload_n (pc := 7) hX 1 dX7_cheapestWay_7 rfl rfl ?_
    refine r_cvP (st := [.int v1]) (pc := 8) hX dX7_cheapestWay_8 MI_Chart_waysOf MV_Chart_waysOf lkX7_119 k10 (c_Chart_waysOf a0 m) rfl rfl (Nat.le_of_ble_eq_true rfl) (by decide) (fun v2 => ?_)
    refine r_icmp_ge (tgt := 59) (pc := 11) hX dX7_cheapestWay_11 (by decide) ?_ ?_
    · skip
      refine r_iconst (pc := 59) hX dX7_cheapestWay_59 ic_m1 ?_
      exact r_iretP (pc := 60) hX hE dX7_cheapestWay_60
    · skip
      refine r_aload_n (pc := 14) hX 0 dX7_cheapestWay_14 rfl rfl ?_
      refine r_getR (pc := 15) hX dX7_cheapestWay_15 fp7_10 k0 rfl g0_0 ?_
      refine r_iload_n (pc := 18) hX 1 dX7_cheapestWay_18 rfl rfl ?_
      refine r_iload_n (pc := 19) hX 3 dX7_cheapestWay_19 rfl rfl ?_
      refine r_cvP (st := []) (pc := 20) hX dX7_cheapestWay_20 MI_Chart_wayByPrice MV_Chart_wayByPrice lkX7_300 k10 (c_Chart_wayByPrice a0 v1 m) rfl rfl (Nat.le_of_ble_eq_true rfl) (by decide) (fun v3 => ?_)
      refine r_istore (L' := [(4, .int v3), (0, rX X 0), (1, .int a0), (2, rX X a1), (3, .int v1)]) (pc := 23) hX dX7_cheapestWay_23 (by decide) rfl ?_
      refine r_aload_n (pc := 25) hX 1 dX7_cheapestWay_25 rfl rfl ?_
      refine r_getR (pc := 26) hX dX7_cheapestWay_26 fp7_26 k0 rfl g0_2 ?_
      refine r_iload_n (pc := 29) hX 2 dX7_cheapestWay_29 rfl rfl ?_
      refine r_iload (pc := 30) hX 0 dX7_cheapestWay_30 rfl ?_
      refine r_cvP (st := []) (pc := 32) hX dX7_cheapestWay_32 MI_Lay_isOpen MV_Lay_isOpen lkX7_298 k3 (c_Lay_isOpen a0 v3 m) rfl rfl (Nat.le_of_ble_eq_true rfl) (by decide) (fun v4 => ?_)
      refine r_join (P := fun k => J X (oP m) (k) m 53 [(0, rX X 0), (1, .int a0), (2, rX X a1), (3, .int v1)] []) ?_ ?_
      · skip
        refine r_iincN (L' := fun w => [(3, .int w), (0, rX X 0), (1, .int a0), (2, rX X a1)]) (pc := 53) hX 3 dX7_cheapestWay_53 rfl rfl (by decide) (fun _ => rfl) (fun v5 => ?_)
        refine r_goto (tgt := 2) (pc := 56) hX dX7_cheapestWay_56 (by decide) ?_
        exact r_sub [1, 2, 3, 0] rfl (hs2 v5)
      intro k53_ hk53_
      refine r_if_eq (tgt := 53) (pc := 35) hX dX7_cheapestWay_35 (by decide) ?_ ?_
      · skip
        exact r_sub [1, 2, 3, 4] rfl (hk53_)
      · skip
        refine r_aload_n (pc := 38) hX 1 dX7_cheapestWay_38 rfl rfl ?_
        refine r_iload_n (pc := 39) hX 2 dX7_cheapestWay_39 rfl rfl ?_
        refine r_iload (pc := 40) hX 0 dX7_cheapestWay_40 rfl ?_
        refine r_aload_n (pc := 42) hX 3 dX7_cheapestWay_42 rfl rfl ?_
        refine r_cvP (st := []) (pc := 43) hX dX7_cheapestWay_43 MI_NC_firstHit MV_NC_firstHit lkX7_240 k0 (c_NC_firstHit a0 v3 a1 ha1 m) rfl rfl (Nat.le_of_ble_eq_true rfl) (by decide) (fun v6 => ?_)
        refine r_iconst (pc := 46) hX dX7_cheapestWay_46 ic_m1 ?_
        refine r_icmp_ne (tgt := 53) (pc := 47) hX dX7_cheapestWay_47 (by decide) ?_ ?_
        · skip
          exact r_sub [1, 2, 3, 4] rfl (hk53_)
        · skip
          refine r_iload (pc := 50) hX 0 dX7_cheapestWay_50 rfl ?_
          exact r_iretP (pc := 52) hX hE dX7_cheapestWay_52
  exact r_sub [1, 2, 3, 0] rfl (hl2 FU (0 : Int32))
def lb_NC_leftInHand_4 (m : Me) (s4 : Int32 → Int32 → Option Int32) (v1 : Int32) (v2 : Int32) : Option Int32 := if (m.1 10 0) ≤ v2 then some v1 else rd (ln 17) v2 (m.1 17) (fun v3 => bd (fun (v4 : Int32) => cP (f_NC_yes v4 m) (fun v5 => bd ((v1 + v5)) (fun v6 => bd (v2 + 1) (fun v7 => (s4 v6 v7))))) (fun k34_ => if v3 = (-1 : Int32) then (k34_ (1 : Int32)) else (k34_ (0 : Int32))))
def f_NC_leftInHand  (m : Me) : Option Int32 := ((fx (lb_NC_leftInHand_4 m) (fun _ _ => none) FU) (0 : Int32) (0 : Int32))
set_option maxHeartbeats 4000000 in
set_option maxRecDepth 100000 in
theorem c_NC_leftInHand   (m : Me) (r : Int32) (h : f_NC_leftInHand  m = some r) : Ct yX7_leftInHand cX7_leftInHand 3 (some .int) 1 (fun ad => [.ref (ad 0)]) m (fun ad => (some (.int r), m)) := by
  refine mk_ct (F := f_NC_leftInHand  m) (fun _ => oP m) r h (fun _ => rfl) (by decide) (fun _ => Nat.le_of_ble_eq_true rfl) ?_
  intro X hX hE
  show J X (oP m) (f_NC_leftInHand  m) m 0 [(0, rX X 0)] []
  unfold f_NC_leftInHand
  refine r_iconst (pc := 0) hX dX7_leftInHand_0 ic_0 ?_
  refine r_istore_n (L' := [(1, .int (0 : Int32)), (0, rX X 0)]) (pc := 1) hX dX7_leftInHand_1 rfl (by decide) rfl ?_
  refine r_iconst (pc := 2) hX dX7_leftInHand_2 ic_0 ?_
  refine r_istore_n (L' := [(2, .int (0 : Int32)), (1, .int (0 : Int32)), (0, rX X 0)]) (pc := 3) hX dX7_leftInHand_3 rfl (by decide) rfl ?_
  have hl4 : ∀ n : Nat, ∀ (v1 : Int32) (v2 : Int32), J X (oP m) (fx (lb_NC_leftInHand_4 m) (fun _ _ => none) n v1 v2) m 4 [(0, rX X 0), (1, .int v1), (2, .int v2)] [] := by
    refine fx_ind (fun (f : Int32 → Int32 → Option Int32) => ∀ (v1 : Int32) (v2 : Int32), J X (oP m) (f v1 v2) m 4 [(0, rX X 0), (1, .int v1), (2, .int v2)] []) (fun _ _ => r_none) ?_
    intro s4 hs4 v1 v2
    unfold lb_NC_leftInHand_4
    refine r_iload_n (pc := 4) hX 2 dX7_leftInHand_4 rfl rfl ?_
    refine r_aload_n (pc := 5) hX 0 dX7_leftInHand_5 rfl rfl ?_
    refine r_getR (pc := 6) hX dX7_leftInHand_6 fp7_10 k0 rfl g0_0 ?_
    refine r_getI (pc := 9) hX dX7_leftInHand_9 fp7_76 k10 (by decide) ?_
    refine r_icmp_ge (tgt := 45) (pc := 12) hX dX7_leftInHand_12 (by decide) ?_ ?_
    · skip
      refine r_iload_n (pc := 45) hX 1 dX7_leftInHand_45 rfl rfl ?_
      exact r_iretP (pc := 46) hX hE dX7_leftInHand_46
    · skip
      refine r_iload_n (pc := 15) hX 1 dX7_leftInHand_15 rfl rfl ?_
      refine r_aload_n (pc := 16) hX 0 dX7_leftInHand_16 rfl rfl ?_
      refine r_getR (pc := 17) hX dX7_leftInHand_17 fp7_10 k0 rfl g0_0 ?_
      refine r_getR (pc := 20) hX dX7_leftInHand_20 fp7_190 k10 rfl g10_8 ?_
      refine r_iload_n (pc := 23) hX 2 dX7_leftInHand_23 rfl rfl ?_
      refine r_iald (pc := 24) hX dX7_leftInHand_24 k17 (fun v3 => ?_)
      refine r_iconst (pc := 25) hX dX7_leftInHand_25 ic_m1 ?_
      refine r_join (P := fun k => ∀ (v4 : Int32), J X (oP m) (k v4) m 34 [(0, rX X 0), (2, .int v2)] [.int v4, .int v1]) ?_ ?_
      · intro v4
        refine r_csP (st := [.int v1]) (pc := 34) hX dX7_leftInHand_34 MI_NC_yes MS_NC_yes lkX7_135 (c_NC_yes v4 m) rfl rfl (Nat.le_of_ble_eq_true rfl) (by decide) (fun v5 => ?_)
        refine r_iadd (pc := 37) hX dX7_leftInHand_37 ?_
        refine r_nmI (fun v6 => ?_)
        refine r_istore_n (L' := [(1, .int v6), (0, rX X 0), (2, .int v2)]) (pc := 38) hX dX7_leftInHand_38 rfl (by decide) rfl ?_
        refine r_iincN (L' := fun w => [(2, .int w), (1, .int v6), (0, rX X 0)]) (pc := 39) hX 2 dX7_leftInHand_39 rfl rfl (by decide) (fun _ => rfl) (fun v7 => ?_)
        refine r_goto (tgt := 4) (pc := 42) hX dX7_leftInHand_42 (by decide) ?_
        exact r_sub [2, 1, 0] rfl (hs4 v6 v7)
      intro k34_ hk34_
      refine r_icmp_ne (tgt := 33) (pc := 26) hX dX7_leftInHand_26 (by decide) ?_ ?_
      · skip
        refine r_iconst (pc := 33) hX dX7_leftInHand_33 ic_0 ?_
        exact r_sub [0, 2] rfl (hk34_ (0 : Int32))
      · skip
        refine r_iconst (pc := 29) hX dX7_leftInHand_29 ic_1 ?_
        refine r_goto (tgt := 34) (pc := 30) hX dX7_leftInHand_30 (by decide) ?_
        exact r_sub [0, 2] rfl (hk34_ (1 : Int32))
  exact r_sub [2, 1, 0] rfl (hl4 FU (0 : Int32) (0 : Int32))
def lb_NC_quick_25 (k64_ : Me → Option (Int32 × Me)) (s25 : Int32 → Me → Option (Int32 × Me)) (v7 : Int32) (m8 : Me) : Option (Int32 × Me) := if (m8.1 10 0) ≤ v7 then (k64_ m8) else rd (ln 110) v7 (m8.1 110) (fun v9 => cP (f_NC_cheapestWay v9 109 m8) (fun v10 => wi m8 109 (ln 109) v9 v10 (fun m11 => bd (v7 + 1) (fun v12 => (s25 v12 m11)))))
def f_NC_quick  (m : Me) : Option (Int32 × Me) := cP (f_NC_layOut m) (fun m1 => cP (f_Chart_queue 110 m1) (fun m2 => cP (f_Arrays_fill 109 (-1 : Int32) m2) (fun m3 => bd (fun (m4 : Me) => cP (f_NC_takeInHand m4) (fun m5 => cP (f_NC_leftInHand m5) (fun v6 => some (v6, m5)))) (fun k64_ => ((fx (lb_NC_quick_25 k64_) (fun _ _ => none) FU) (0 : Int32) m3)))))
set_option maxHeartbeats 4000000 in
set_option maxRecDepth 100000 in
theorem c_NC_quick   (m : Me) (r : Int32) (m' : Me) (h : f_NC_quick  m = some (r, m')) : Ct yX7_quick cX7_quick 3 (some .int) 5 (fun ad => [.ref (ad 0)]) m (fun ad => (some (.int r), m')) := by
  refine mk_ct (F := f_NC_quick  m) (fun _ => oI) (r, m') h (fun _ => rfl) (by decide) (fun _ => Nat.le_of_ble_eq_true rfl) ?_
  intro X hX hE
  show J X oI (f_NC_quick  m) m 0 [(0, rX X 0)] []
  unfold f_NC_quick
  refine r_aload_n (pc := 0) hX 0 dX7_quick_0 rfl rfl ?_
  refine r_cvV (st := []) (pc := 1) hX dX7_quick_1 MI_NC_layOut MV_NC_layOut lkX7_172 k0 (c_NC_layOut m) rfl rfl (Nat.le_of_ble_eq_true rfl) (by decide) (fun m1 => ?_)
  refine r_aload_n (pc := 4) hX 0 dX7_quick_4 rfl rfl ?_
  refine r_getR (pc := 5) hX dX7_quick_5 fp7_10 k0 rfl g0_0 ?_
  refine r_aload_n (pc := 8) hX 0 dX7_quick_8 rfl rfl ?_
  refine r_getR (pc := 9) hX dX7_quick_9 fp7_65 k0 rfl g0_9 ?_
  refine r_cvV (st := []) (pc := 12) hX dX7_quick_12 MI_Chart_queue MV_Chart_queue lkX7_209 k10 (c_Chart_queue 110 k110 m1) rfl rfl (Nat.le_of_ble_eq_true rfl) (by decide) (fun m2 => ?_)
  refine r_aload_n (pc := 15) hX 0 dX7_quick_15 rfl rfl ?_
  refine r_getR (pc := 16) hX dX7_quick_16 fp7_61 k0 rfl g0_8 ?_
  refine r_iconst (pc := 19) hX dX7_quick_19 ic_m1 ?_
  refine r_csV (st := []) (pc := 20) hX dX7_quick_20 MI_Arrays_fill MS_Arrays_fill lkX7_227 (c_Arrays_fill 109 (-1 : Int32) k109 m2) rfl rfl (Nat.le_of_ble_eq_true rfl) (by decide) (fun m3 => ?_)
  refine r_iconst (pc := 23) hX dX7_quick_23 ic_0 ?_
  refine r_istore_n (L' := [(1, .int (0 : Int32)), (0, rX X 0)]) (pc := 24) hX dX7_quick_24 rfl (by decide) rfl ?_
  refine r_join (P := fun k => ∀ (m4 : Me), J X oI (k m4) m4 64 [(0, rX X 0)] []) ?_ ?_
  · intro m4
    refine r_aload_n (pc := 64) hX 0 dX7_quick_64 rfl rfl ?_
    refine r_cvV (st := []) (pc := 65) hX dX7_quick_65 MI_NC_takeInHand MV_NC_takeInHand lkX7_224 k0 (c_NC_takeInHand m4) rfl rfl (Nat.le_of_ble_eq_true rfl) (by decide) (fun m5 => ?_)
    refine r_aload_n (pc := 68) hX 0 dX7_quick_68 rfl rfl ?_
    refine r_cvP (st := []) (pc := 69) hX dX7_quick_69 MI_NC_leftInHand MV_NC_leftInHand lkX7_237 k0 (c_NC_leftInHand m5) rfl rfl (Nat.le_of_ble_eq_true rfl) (by decide) (fun v6 => ?_)
    exact r_iretI (pc := 72) hX hE dX7_quick_72
  intro k64_ hk64_
  have hl25 : ∀ n : Nat, ∀ (v7 : Int32) (m8 : Me), J X oI (fx (lb_NC_quick_25 k64_) (fun _ _ => none) n v7 m8) m8 25 [(0, rX X 0), (1, .int v7)] [] := by
    refine fx_ind (fun (f : Int32 → Me → Option (Int32 × Me)) => ∀ (v7 : Int32) (m8 : Me), J X oI (f v7 m8) m8 25 [(0, rX X 0), (1, .int v7)] []) (fun _ _ => r_none) ?_
    intro s25 hs25 v7 m8
    unfold lb_NC_quick_25
    refine r_iload_n (pc := 25) hX 1 dX7_quick_25 rfl rfl ?_
    refine r_aload_n (pc := 26) hX 0 dX7_quick_26 rfl rfl ?_
    refine r_getR (pc := 27) hX dX7_quick_27 fp7_10 k0 rfl g0_0 ?_
    refine r_getI (pc := 30) hX dX7_quick_30 fp7_76 k10 (by decide) ?_
    refine r_icmp_ge (tgt := 64) (pc := 33) hX dX7_quick_33 (by decide) ?_ ?_
    · skip
      exact r_sub [0] rfl (hk64_ m8)
    · skip
      refine r_aload_n (pc := 36) hX 0 dX7_quick_36 rfl rfl ?_
      refine r_getR (pc := 37) hX dX7_quick_37 fp7_65 k0 rfl g0_9 ?_
      refine r_iload_n (pc := 40) hX 1 dX7_quick_40 rfl rfl ?_
      refine r_iald (pc := 41) hX dX7_quick_41 k110 (fun v9 => ?_)
      refine r_istore_n (L' := [(2, .int v9), (0, rX X 0), (1, .int v7)]) (pc := 42) hX dX7_quick_42 rfl (by decide) rfl ?_
      refine r_aload_n (pc := 43) hX 1 dX7_quick_43 rfl rfl ?_
      refine r_getR (pc := 44) hX dX7_quick_44 fp7_61 k0 rfl g0_8 ?_
      refine r_iload_n (pc := 47) hX 0 dX7_quick_47 rfl rfl ?_
      refine r_aload_n (pc := 48) hX 1 dX7_quick_48 rfl rfl ?_
      refine r_iload_n (pc := 49) hX 0 dX7_quick_49 rfl rfl ?_
      refine r_aload_n (pc := 50) hX 1 dX7_quick_50 rfl rfl ?_
      refine r_getR (pc := 51) hX dX7_quick_51 fp7_61 k0 rfl g0_8 ?_
      refine r_cvP (st := [.int v9, rX X 109]) (pc := 54) hX dX7_quick_54 MI_NC_cheapestWay MV_NC_cheapestWay lkX7_233 k0 (c_NC_cheapestWay v9 109 k109 m8) rfl rfl (Nat.le_of_ble_eq_true rfl) (by decide) (fun v10 => ?_)
      refine r_iast (pc := 57) hX dX7_quick_57 k109 (fun m11 => ?_)
      refine r_iincN (L' := fun w => [(1, .int w), (2, .int v9), (0, rX X 0)]) (pc := 58) hX 2 dX7_quick_58 rfl rfl (by decide) (fun _ => rfl) (fun v12 => ?_)
      refine r_goto (tgt := 25) (pc := 61) hX dX7_quick_61 (by decide) ?_
      exact r_sub [2, 0] rfl (hs25 v12 m11)
  exact r_sub [1, 0] rfl (hl25 FU (0 : Int32) m3)
def f_NC_why (a0 : Int32) (a1 : Int32) (m : Me) : Option (Int32 × Me) := cP (f_Chart_hasWay a0 a1 m) (fun v1 => if v1 = 0 then some ((-3 : Int32), m) else rd (ln 17) a0 (m.1 17) (fun v2 => if v2 = (-1 : Int32) then cP (f_NC_layOut m) (fun m3 => cP (f_NC_firstHit a0 a1 17 m3) (fun v4 => some (v4, m3))) else some ((-4 : Int32), m)))
set_option maxHeartbeats 4000000 in
set_option maxRecDepth 100000 in
theorem c_NC_why (a0 : Int32) (a1 : Int32)  (m : Me) (r : Int32) (m' : Me) (h : f_NC_why a0 a1 m = some (r, m')) : Ct yX7_why cX7_why 3 (some .int) 5 (fun ad => [.ref (ad 0), .int a0, .int a1]) m (fun ad => (some (.int r), m')) := by
  refine mk_ct (F := f_NC_why a0 a1 m) (fun _ => oI) (r, m') h (fun _ => rfl) (by decide) (fun _ => Nat.le_of_ble_eq_true rfl) ?_
  intro X hX hE
  show J X oI (f_NC_why a0 a1 m) m 0 [(0, rX X 0), (1, .int a0), (2, .int a1)] []
  unfold f_NC_why
  refine r_aload_n (pc := 0) hX 0 dX7_why_0 rfl rfl ?_
  refine r_getR (pc := 1) hX dX7_why_1 fp7_10 k0 rfl g0_0 ?_
  refine r_iload_n (pc := 4) hX 1 dX7_why_4 rfl rfl ?_
  refine r_iload_n (pc := 5) hX 2 dX7_why_5 rfl rfl ?_
  refine r_cvP (st := []) (pc := 6) hX dX7_why_6 MI_Chart_hasWay MV_Chart_hasWay lkX7_139 k10 (c_Chart_hasWay a0 a1 m) rfl rfl (Nat.le_of_ble_eq_true rfl) (by decide) (fun v1 => ?_)
  refine r_if_ne (tgt := 15) (pc := 9) hX dX7_why_9 (by decide) ?_ ?_
  · skip
    refine r_aload_n (pc := 15) hX 0 dX7_why_15 rfl rfl ?_
    refine r_getR (pc := 16) hX dX7_why_16 fp7_10 k0 rfl g0_0 ?_
    refine r_getR (pc := 19) hX dX7_why_19 fp7_190 k10 rfl g10_8 ?_
    refine r_iload_n (pc := 22) hX 1 dX7_why_22 rfl rfl ?_
    refine r_iald (pc := 23) hX dX7_why_23 k17 (fun v2 => ?_)
    refine r_iconst (pc := 24) hX dX7_why_24 ic_m1 ?_
    refine r_icmp_eq (tgt := 31) (pc := 25) hX dX7_why_25 (by decide) ?_ ?_
    · skip
      refine r_aload_n (pc := 31) hX 0 dX7_why_31 rfl rfl ?_
      refine r_cvV (st := []) (pc := 32) hX dX7_why_32 MI_NC_layOut MV_NC_layOut lkX7_172 k0 (c_NC_layOut m) rfl rfl (Nat.le_of_ble_eq_true rfl) (by decide) (fun m3 => ?_)
      refine r_aload_n (pc := 35) hX 0 dX7_why_35 rfl rfl ?_
      refine r_iload_n (pc := 36) hX 1 dX7_why_36 rfl rfl ?_
      refine r_iload_n (pc := 37) hX 2 dX7_why_37 rfl rfl ?_
      refine r_aload_n (pc := 38) hX 0 dX7_why_38 rfl rfl ?_
      refine r_getR (pc := 39) hX dX7_why_39 fp7_10 k0 rfl g0_0 ?_
      refine r_getR (pc := 42) hX dX7_why_42 fp7_190 k10 rfl g10_8 ?_
      refine r_cvP (st := []) (pc := 45) hX dX7_why_45 MI_NC_firstHit MV_NC_firstHit lkX7_240 k0 (c_NC_firstHit a0 a1 17 k17 m3) rfl rfl (Nat.le_of_ble_eq_true rfl) (by decide) (fun v4 => ?_)
      exact r_iretI (pc := 48) hX hE dX7_why_48
    · skip
      refine r_bipush (pc := 28) hX dX7_why_28 bp_m4 ?_
      exact r_iretI (pc := 30) hX hE dX7_why_30
  · skip
    refine r_bipush (pc := 12) hX dX7_why_12 bp_m3 ?_
    exact r_iretI (pc := 14) hX hE dX7_why_14
def lb_NC_slack_8 (m1 : Me) (s8 : Int32 → Int32 → Option (Int32 × Me)) (v2 : Int32) (v3 : Int32) : Option (Int32 × Me) := if (m1.1 10 0) ≤ v3 then some (v2, m1) else rd (ln 17) v3 (m1.1 17) (fun v4 => bd (fun (v5 : Int32) => bd (fun (v6 : Int32) => bd (v3 + 1) (fun v7 => (s8 v6 v7))) (fun k83_ => if v5 = (-1 : Int32) then (k83_ v2) else cP (f_Chart_priceOf v3 v5 m1) (fun v8 => cP (f_Chart_priceOf v3 v4 m1) (fun v9 => if v9 ≤ v8 then (k83_ v2) else bd (v2 + 1) (fun v10 => (k83_ v10)))))) (fun k50_ => if v4 = (-1 : Int32) then (k50_ (-1 : Int32)) else cP (f_NC_cheapestWay v3 17 m1) (fun v11 => (k50_ v11))))
def f_NC_slack  (m : Me) : Option (Int32 × Me) := cP (f_NC_layOut m) (fun m1 => ((fx (lb_NC_slack_8 m1) (fun _ _ => none) FU) (0 : Int32) (0 : Int32)))
set_option maxHeartbeats 4000000 in
set_option maxRecDepth 100000 in
theorem c_NC_slack   (m : Me) (r : Int32) (m' : Me) (h : f_NC_slack  m = some (r, m')) : Ct yX7_slack cX7_slack 5 (some .int) 5 (fun ad => [.ref (ad 0)]) m (fun ad => (some (.int r), m')) := by
  refine mk_ct (F := f_NC_slack  m) (fun _ => oI) (r, m') h (fun _ => rfl) (by decide) (fun _ => Nat.le_of_ble_eq_true rfl) ?_
  intro X hX hE
  show J X oI (f_NC_slack  m) m 0 [(0, rX X 0)] []
  unfold f_NC_slack
  refine r_aload_n (pc := 0) hX 0 dX7_slack_0 rfl rfl ?_
  refine r_cvV (st := []) (pc := 1) hX dX7_slack_1 MI_NC_layOut MV_NC_layOut lkX7_172 k0 (c_NC_layOut m) rfl rfl (Nat.le_of_ble_eq_true rfl) (by decide) (fun m1 => ?_)
  refine r_iconst (pc := 4) hX dX7_slack_4 ic_0 ?_
  refine r_istore_n (L' := [(1, .int (0 : Int32)), (0, rX X 0)]) (pc := 5) hX dX7_slack_5 rfl (by decide) rfl ?_
  refine r_iconst (pc := 6) hX dX7_slack_6 ic_0 ?_
  refine r_istore_n (L' := [(2, .int (0 : Int32)), (1, .int (0 : Int32)), (0, rX X 0)]) (pc := 7) hX dX7_slack_7 rfl (by decide) rfl ?_
  have hl8 : ∀ n : Nat, ∀ (v2 : Int32) (v3 : Int32), J X oI (fx (lb_NC_slack_8 m1) (fun _ _ => none) n v2 v3) m1 8 [(0, rX X 0), (1, .int v2), (2, .int v3)] [] := by
    refine fx_ind (fun (f : Int32 → Int32 → Option (Int32 × Me)) => ∀ (v2 : Int32) (v3 : Int32), J X oI (f v2 v3) m1 8 [(0, rX X 0), (1, .int v2), (2, .int v3)] []) (fun _ _ => r_none) ?_
    intro s8 hs8 v2 v3
    unfold lb_NC_slack_8
    refine r_iload_n (pc := 8) hX 2 dX7_slack_8 rfl rfl ?_
    refine r_aload_n (pc := 9) hX 0 dX7_slack_9 rfl rfl ?_
    refine r_getR (pc := 10) hX dX7_slack_10 fp7_10 k0 rfl g0_0 ?_
    refine r_getI (pc := 13) hX dX7_slack_13 fp7_76 k10 (by decide) ?_
    refine r_icmp_ge (tgt := 89) (pc := 16) hX dX7_slack_16 (by decide) ?_ ?_
    · skip
      refine r_iload_n (pc := 89) hX 1 dX7_slack_89 rfl rfl ?_
      exact r_iretI (pc := 90) hX hE dX7_slack_90
    · skip
      refine r_aload_n (pc := 19) hX 0 dX7_slack_19 rfl rfl ?_
      refine r_getR (pc := 20) hX dX7_slack_20 fp7_10 k0 rfl g0_0 ?_
      refine r_getR (pc := 23) hX dX7_slack_23 fp7_190 k10 rfl g10_8 ?_
      refine r_iload_n (pc := 26) hX 2 dX7_slack_26 rfl rfl ?_
      refine r_iald (pc := 27) hX dX7_slack_27 k17 (fun v4 => ?_)
      refine r_istore_n (L' := [(3, .int v4), (0, rX X 0), (1, .int v2), (2, .int v3)]) (pc := 28) hX dX7_slack_28 rfl (by decide) rfl ?_
      refine r_iload_n (pc := 29) hX 0 dX7_slack_29 rfl rfl ?_
      refine r_iconst (pc := 30) hX dX7_slack_30 ic_m1 ?_
      refine r_join (P := fun k => ∀ (v5 : Int32), J X oI (k v5) m1 50 [(0, rX X 0), (1, .int v2), (2, .int v3), (3, .int v4)] [.int v5]) ?_ ?_
      · intro v5
        refine r_istore (L' := [(4, .int v5), (0, rX X 0), (1, .int v2), (2, .int v3), (3, .int v4)]) (pc := 50) hX dX7_slack_50 (by decide) rfl ?_
        refine r_iload (pc := 52) hX 0 dX7_slack_52 rfl ?_
        refine r_iconst (pc := 54) hX dX7_slack_54 ic_m1 ?_
        refine r_join (P := fun k => ∀ (v6 : Int32), J X oI (k v6) m1 83 [(0, rX X 0), (1, .int v6), (2, .int v3)] []) ?_ ?_
        · intro v6
          refine r_iincN (L' := fun w => [(2, .int w), (0, rX X 0), (1, .int v6)]) (pc := 83) hX 2 dX7_slack_83 rfl rfl (by decide) (fun _ => rfl) (fun v7 => ?_)
          refine r_goto (tgt := 8) (pc := 86) hX dX7_slack_86 (by decide) ?_
          exact r_sub [1, 2, 0] rfl (hs8 v6 v7)
        intro k83_ hk83_
        refine r_icmp_eq (tgt := 83) (pc := 55) hX dX7_slack_55 (by decide) ?_ ?_
        · skip
          exact r_sub [1, 2, 3] rfl (hk83_ v2)
        · skip
          refine r_aload_n (pc := 58) hX 1 dX7_slack_58 rfl rfl ?_
          refine r_getR (pc := 59) hX dX7_slack_59 fp7_10 k0 rfl g0_0 ?_
          refine r_iload_n (pc := 62) hX 3 dX7_slack_62 rfl rfl ?_
          refine r_iload (pc := 63) hX 0 dX7_slack_63 rfl ?_
          refine r_cvP (st := []) (pc := 65) hX dX7_slack_65 MI_Chart_priceOf MV_Chart_priceOf lkX7_161 k10 (c_Chart_priceOf v3 v5 m1) rfl rfl (Nat.le_of_ble_eq_true rfl) (by decide) (fun v8 => ?_)
          refine r_aload_n (pc := 68) hX 1 dX7_slack_68 rfl rfl ?_
          refine r_getR (pc := 69) hX dX7_slack_69 fp7_10 k0 rfl g0_0 ?_
          refine r_iload_n (pc := 72) hX 3 dX7_slack_72 rfl rfl ?_
          refine r_iload_n (pc := 73) hX 4 dX7_slack_73 rfl rfl ?_
          refine r_cvP (st := [.int v8]) (pc := 74) hX dX7_slack_74 MI_Chart_priceOf MV_Chart_priceOf lkX7_161 k10 (c_Chart_priceOf v3 v4 m1) rfl rfl (Nat.le_of_ble_eq_true rfl) (by decide) (fun v9 => ?_)
          refine r_icmp_ge (tgt := 83) (pc := 77) hX dX7_slack_77 (by decide) ?_ ?_
          · skip
            exact r_sub [1, 2, 3] rfl (hk83_ v2)
          · skip
            refine r_iincN (L' := fun w => [(1, .int w), (4, .int v5), (0, rX X 0), (2, .int v3), (3, .int v4)]) (pc := 80) hX 2 dX7_slack_80 rfl rfl (by decide) (fun _ => rfl) (fun v10 => ?_)
            exact r_sub [2, 0, 3] rfl (hk83_ v10)
      intro k50_ hk50_
      refine r_icmp_ne (tgt := 38) (pc := 31) hX dX7_slack_31 (by decide) ?_ ?_
      · skip
        refine r_aload_n (pc := 38) hX 1 dX7_slack_38 rfl rfl ?_
        refine r_iload_n (pc := 39) hX 3 dX7_slack_39 rfl rfl ?_
        refine r_aload_n (pc := 40) hX 1 dX7_slack_40 rfl rfl ?_
        refine r_getR (pc := 41) hX dX7_slack_41 fp7_10 k0 rfl g0_0 ?_
        refine r_getR (pc := 44) hX dX7_slack_44 fp7_190 k10 rfl g10_8 ?_
        refine r_cvP (st := []) (pc := 47) hX dX7_slack_47 MI_NC_cheapestWay MV_NC_cheapestWay lkX7_233 k0 (c_NC_cheapestWay v3 17 k17 m1) rfl rfl (Nat.le_of_ble_eq_true rfl) (by decide) (fun v11 => ?_)
        exact r_sub [1, 2, 3, 0] rfl (hk50_ v11)
      · skip
        refine r_iconst (pc := 34) hX dX7_slack_34 ic_m1 ?_
        refine r_goto (tgt := 50) (pc := 35) hX dX7_slack_35 (by decide) ?_
        exact r_sub [1, 2, 3, 0] rfl (hk50_ (-1 : Int32))
  exact r_sub [2, 1, 0] rfl (hl8 FU (0 : Int32) (0 : Int32))
def f_NC_steady (a0 : Int32) (a1 : Int32) (m : Me) : Option (Int32 × Me) := cP (f_Chart_has a0 m) (fun v1 => if v1 = 0 then some ((-3 : Int32), m) else cP (f_NC_within a1 (0 : Int32) (1 : Int32) m) (fun v2 => if v2 = 0 then some ((-3 : Int32), m) else cP (f_Plan_refresh m) (fun m3 => if a1 = 0 then rd (ln 106) a0 (m3.1 106) (fun v5 => some (v5, m3)) else rd (ln 107) a0 (m3.1 107) (fun v4 => some (v4, m3)))))
set_option maxHeartbeats 4000000 in
set_option maxRecDepth 100000 in
theorem c_NC_steady (a0 : Int32) (a1 : Int32)  (m : Me) (r : Int32) (m' : Me) (h : f_NC_steady a0 a1 m = some (r, m')) : Ct yX7_steady cX7_steady 3 (some .int) 6 (fun ad => [.ref (ad 0), .int a0, .int a1]) m (fun ad => (some (.int r), m')) := by
  refine mk_ct (F := f_NC_steady a0 a1 m) (fun _ => oI) (r, m') h (fun _ => rfl) (by decide) (fun _ => Nat.le_of_ble_eq_true rfl) ?_
  intro X hX hE
  show J X oI (f_NC_steady a0 a1 m) m 0 [(0, rX X 0), (1, .int a0), (2, .int a1)] []
  unfold f_NC_steady
  refine r_aload_n (pc := 0) hX 0 dX7_steady_0 rfl rfl ?_
  refine r_getR (pc := 1) hX dX7_steady_1 fp7_10 k0 rfl g0_0 ?_
  refine r_iload_n (pc := 4) hX 1 dX7_steady_4 rfl rfl ?_
  refine r_cvP (st := []) (pc := 5) hX dX7_steady_5 MI_Chart_has MV_Chart_has lkX7_94 k10 (c_Chart_has a0 m) rfl rfl (Nat.le_of_ble_eq_true rfl) (by decide) (fun v1 => ?_)
  refine r_if_eq (tgt := 20) (pc := 8) hX dX7_steady_8 (by decide) ?_ ?_
  · skip
    refine r_bipush (pc := 20) hX dX7_steady_20 bp_m3 ?_
    exact r_iretI (pc := 22) hX hE dX7_steady_22
  · skip
    refine r_iload_n (pc := 11) hX 2 dX7_steady_11 rfl rfl ?_
    refine r_iconst (pc := 12) hX dX7_steady_12 ic_0 ?_
    refine r_iconst (pc := 13) hX dX7_steady_13 ic_1 ?_
    refine r_csP (st := []) (pc := 14) hX dX7_steady_14 MI_NC_within MS_NC_within lkX7_103 (c_NC_within a1 (0 : Int32) (1 : Int32) m) rfl rfl (Nat.le_of_ble_eq_true rfl) (by decide) (fun v2 => ?_)
    refine r_if_ne (tgt := 23) (pc := 17) hX dX7_steady_17 (by decide) ?_ ?_
    · skip
      refine r_aload_n (pc := 23) hX 0 dX7_steady_23 rfl rfl ?_
      refine r_getR (pc := 24) hX dX7_steady_24 fp7_47 k0 rfl g0_5 ?_
      refine r_aload_n (pc := 27) hX 0 dX7_steady_27 rfl rfl ?_
      refine r_getR (pc := 28) hX dX7_steady_28 fp7_10 k0 rfl g0_0 ?_
      refine r_cvV (st := []) (pc := 31) hX dX7_steady_31 MI_Plan_refresh MV_Plan_refresh lkX7_244 k105 (c_Plan_refresh m) rfl rfl (Nat.le_of_ble_eq_true rfl) (by decide) (fun m3 => ?_)
      refine r_iload_n (pc := 34) hX 2 dX7_steady_34 rfl rfl ?_
      refine r_if_ne (tgt := 50) (pc := 35) hX dX7_steady_35 (by decide) ?_ ?_
      · skip
        refine r_aload_n (pc := 50) hX 0 dX7_steady_50 rfl rfl ?_
        refine r_getR (pc := 51) hX dX7_steady_51 fp7_47 k0 rfl g0_5 ?_
        refine r_getR (pc := 54) hX dX7_steady_54 fp7_250 k105 rfl g105_1 ?_
        refine r_iload_n (pc := 57) hX 1 dX7_steady_57 rfl rfl ?_
        refine r_iald (pc := 58) hX dX7_steady_58 k107 (fun v4 => ?_)
        exact r_iretI (pc := 59) hX hE dX7_steady_59
      · skip
        refine r_aload_n (pc := 38) hX 0 dX7_steady_38 rfl rfl ?_
        refine r_getR (pc := 39) hX dX7_steady_39 fp7_47 k0 rfl g0_5 ?_
        refine r_getR (pc := 42) hX dX7_steady_42 fp7_247 k105 rfl g105_0 ?_
        refine r_iload_n (pc := 45) hX 1 dX7_steady_45 rfl rfl ?_
        refine r_iald (pc := 46) hX dX7_steady_46 k106 (fun v5 => ?_)
        refine r_goto (tgt := 59) (pc := 47) hX dX7_steady_47 (by decide) ?_
        exact r_iretI (pc := 59) hX hE dX7_steady_59
    · skip
      refine r_bipush (pc := 20) hX dX7_steady_20 bp_m3 ?_
      exact r_iretI (pc := 22) hX hE dX7_steady_22
def lb_NC_there_25 (a0 : Int32) (m2 : Me) (s25 : Int32 → Int32 → Option (Int32 × Me)) (v3 : Int32) (v4 : Int32) : Option (Int32 × Me) := if (m2.1 10 0) ≤ v4 then some (v3, m2) else cP (f_Plan_isThere v4 a0 m2) (fun v5 => cP (f_NC_yes v5 m2) (fun v6 => bd ((v3 + v6)) (fun v7 => bd (v4 + 1) (fun v8 => (s25 v7 v8)))))
def f_NC_there (a0 : Int32) (m : Me) : Option (Int32 × Me) := cP (f_NC_isZoom a0 m) (fun v1 => if v1 = 0 then some ((-3 : Int32), m) else cP (f_Plan_refresh m) (fun m2 => ((fx (lb_NC_there_25 a0 m2) (fun _ _ => none) FU) (0 : Int32) (0 : Int32))))
set_option maxHeartbeats 4000000 in
set_option maxRecDepth 100000 in
theorem c_NC_there (a0 : Int32)  (m : Me) (r : Int32) (m' : Me) (h : f_NC_there a0 m = some (r, m')) : Ct yX7_there cX7_there 4 (some .int) 6 (fun ad => [.ref (ad 0), .int a0]) m (fun ad => (some (.int r), m')) := by
  refine mk_ct (F := f_NC_there a0 m) (fun _ => oI) (r, m') h (fun _ => rfl) (by decide) (fun _ => Nat.le_of_ble_eq_true rfl) ?_
  intro X hX hE
  show J X oI (f_NC_there a0 m) m 0 [(0, rX X 0), (1, .int a0)] []
  unfold f_NC_there
  refine r_iload_n (pc := 0) hX 1 dX7_there_0 rfl rfl ?_
  refine r_csP (st := []) (pc := 1) hX dX7_there_1 MI_NC_isZoom MS_NC_isZoom lkX7_142 (c_NC_isZoom a0 m) rfl rfl (Nat.le_of_ble_eq_true rfl) (by decide) (fun v1 => ?_)
  refine r_if_ne (tgt := 10) (pc := 4) hX dX7_there_4 (by decide) ?_ ?_
  · skip
    refine r_aload_n (pc := 10) hX 0 dX7_there_10 rfl rfl ?_
    refine r_getR (pc := 11) hX dX7_there_11 fp7_47 k0 rfl g0_5 ?_
    refine r_aload_n (pc := 14) hX 0 dX7_there_14 rfl rfl ?_
    refine r_getR (pc := 15) hX dX7_there_15 fp7_10 k0 rfl g0_0 ?_
    refine r_cvV (st := []) (pc := 18) hX dX7_there_18 MI_Plan_refresh MV_Plan_refresh lkX7_244 k105 (c_Plan_refresh m) rfl rfl (Nat.le_of_ble_eq_true rfl) (by decide) (fun m2 => ?_)
    refine r_iconst (pc := 21) hX dX7_there_21 ic_0 ?_
    refine r_istore_n (L' := [(2, .int (0 : Int32)), (0, rX X 0), (1, .int a0)]) (pc := 22) hX dX7_there_22 rfl (by decide) rfl ?_
    refine r_iconst (pc := 23) hX dX7_there_23 ic_0 ?_
    refine r_istore_n (L' := [(3, .int (0 : Int32)), (2, .int (0 : Int32)), (0, rX X 0), (1, .int a0)]) (pc := 24) hX dX7_there_24 rfl (by decide) rfl ?_
    have hl25 : ∀ n : Nat, ∀ (v3 : Int32) (v4 : Int32), J X oI (fx (lb_NC_there_25 a0 m2) (fun _ _ => none) n v3 v4) m2 25 [(0, rX X 0), (1, .int a0), (2, .int v3), (3, .int v4)] [] := by
      refine fx_ind (fun (f : Int32 → Int32 → Option (Int32 × Me)) => ∀ (v3 : Int32) (v4 : Int32), J X oI (f v3 v4) m2 25 [(0, rX X 0), (1, .int a0), (2, .int v3), (3, .int v4)] []) (fun _ _ => r_none) ?_
      intro s25 hs25 v3 v4
      unfold lb_NC_there_25
      refine r_iload_n (pc := 25) hX 3 dX7_there_25 rfl rfl ?_
      refine r_aload_n (pc := 26) hX 0 dX7_there_26 rfl rfl ?_
      refine r_getR (pc := 27) hX dX7_there_27 fp7_10 k0 rfl g0_0 ?_
      refine r_getI (pc := 30) hX dX7_there_30 fp7_76 k10 (by decide) ?_
      refine r_icmp_ge (tgt := 57) (pc := 33) hX dX7_there_33 (by decide) ?_ ?_
      · skip
        refine r_iload_n (pc := 57) hX 2 dX7_there_57 rfl rfl ?_
        exact r_iretI (pc := 58) hX hE dX7_there_58
      · skip
        refine r_iload_n (pc := 36) hX 2 dX7_there_36 rfl rfl ?_
        refine r_aload_n (pc := 37) hX 0 dX7_there_37 rfl rfl ?_
        refine r_getR (pc := 38) hX dX7_there_38 fp7_47 k0 rfl g0_5 ?_
        refine r_iload_n (pc := 41) hX 3 dX7_there_41 rfl rfl ?_
        refine r_iload_n (pc := 42) hX 1 dX7_there_42 rfl rfl ?_
        refine r_cvP (st := [.int v3]) (pc := 43) hX dX7_there_43 MI_Plan_isThere MV_Plan_isThere lkX7_253 k105 (c_Plan_isThere v4 a0 m2) rfl rfl (Nat.le_of_ble_eq_true rfl) (by decide) (fun v5 => ?_)
        refine r_csP (st := [.int v3]) (pc := 46) hX dX7_there_46 MI_NC_yes MS_NC_yes lkX7_135 (c_NC_yes v5 m2) rfl rfl (Nat.le_of_ble_eq_true rfl) (by decide) (fun v6 => ?_)
        refine r_iadd (pc := 49) hX dX7_there_49 ?_
        refine r_nmI (fun v7 => ?_)
        refine r_istore_n (L' := [(2, .int v7), (0, rX X 0), (1, .int a0), (3, .int v4)]) (pc := 50) hX dX7_there_50 rfl (by decide) rfl ?_
        refine r_iincN (L' := fun w => [(3, .int w), (2, .int v7), (0, rX X 0), (1, .int a0)]) (pc := 51) hX 3 dX7_there_51 rfl rfl (by decide) (fun _ => rfl) (fun v8 => ?_)
        refine r_goto (tgt := 25) (pc := 54) hX dX7_there_54 (by decide) ?_
        exact r_sub [2, 3, 1, 0] rfl (hs25 v7 v8)
    exact r_sub [2, 3, 1, 0] rfl (hl25 FU (0 : Int32) (0 : Int32))
  · skip
    refine r_bipush (pc := 7) hX dX7_there_7 bp_m3 ?_
    exact r_iretI (pc := 9) hX hE dX7_there_9
def lb_NC_at_17 (a0 : Int32) (a1 : Int32) (m2 : Me) (s17 : Int32 → Option (Int32 × Me)) (v3 : Int32) : Option (Int32 × Me) := if (m2.1 10 0) ≤ v3 then some ((-1 : Int32), m2) else rd (ln 17) v3 (m2.1 17) (fun v4 => bd (bd (v3 + 1) (fun v5 => (s17 v5))) (fun k68_ => if v4 = (-1 : Int32) then (k68_) else rd (ln 17) v3 (m2.1 17) (fun v6 => cP (f_Lay_boxOf v3 v6 m2) (fun b7 => cP (f_Box_covers b7 a0 a1 m2) (fun v8 => if v8 = 0 then (k68_) else some (v3, m2))))))
def f_NC_at (a0 : Int32) (a1 : Int32) (m : Me) : Option (Int32 × Me) := cP (f_NC_isPlace a0 a1 m) (fun v1 => if v1 = 0 then some ((-3 : Int32), m) else cP (f_NC_layOut m) (fun m2 => ((fx (lb_NC_at_17 a0 a1 m2) (fun _ => none) FU) (0 : Int32))))
set_option maxHeartbeats 4000000 in
set_option maxRecDepth 100000 in
theorem c_NC_at (a0 : Int32) (a1 : Int32)  (m : Me) (r : Int32) (m' : Me) (h : f_NC_at a0 a1 m = some (r, m')) : Ct yX7_at cX7_at 4 (some .int) 5 (fun ad => [.ref (ad 0), .int a0, .int a1]) m (fun ad => (some (.int r), m')) := by
  refine mk_ct (F := f_NC_at a0 a1 m) (fun _ => oI) (r, m') h (fun _ => rfl) (by decide) (fun _ => Nat.le_of_ble_eq_true rfl) ?_
  intro X hX hE
  show J X oI (f_NC_at a0 a1 m) m 0 [(0, rX X 0), (1, .int a0), (2, .int a1)] []
  unfold f_NC_at
  refine r_iload_n (pc := 0) hX 1 dX7_at_0 rfl rfl ?_
  refine r_iload_n (pc := 1) hX 2 dX7_at_1 rfl rfl ?_
  refine r_csP (st := []) (pc := 2) hX dX7_at_2 MI_NC_isPlace MS_NC_isPlace lkX7_72 (c_NC_isPlace a0 a1 m) rfl rfl (Nat.le_of_ble_eq_true rfl) (by decide) (fun v1 => ?_)
  refine r_if_ne (tgt := 11) (pc := 5) hX dX7_at_5 (by decide) ?_ ?_
  · skip
    refine r_aload_n (pc := 11) hX 0 dX7_at_11 rfl rfl ?_
    refine r_cvV (st := []) (pc := 12) hX dX7_at_12 MI_NC_layOut MV_NC_layOut lkX7_172 k0 (c_NC_layOut m) rfl rfl (Nat.le_of_ble_eq_true rfl) (by decide) (fun m2 => ?_)
    refine r_iconst (pc := 15) hX dX7_at_15 ic_0 ?_
    refine r_istore_n (L' := [(3, .int (0 : Int32)), (0, rX X 0), (1, .int a0), (2, .int a1)]) (pc := 16) hX dX7_at_16 rfl (by decide) rfl ?_
    have hl17 : ∀ n : Nat, ∀ (v3 : Int32), J X oI (fx (lb_NC_at_17 a0 a1 m2) (fun _ => none) n v3) m2 17 [(0, rX X 0), (1, .int a0), (2, .int a1), (3, .int v3)] [] := by
      refine fx_ind (fun (f : Int32 → Option (Int32 × Me)) => ∀ (v3 : Int32), J X oI (f v3) m2 17 [(0, rX X 0), (1, .int a0), (2, .int a1), (3, .int v3)] []) (fun _ => r_none) ?_
      intro s17 hs17 v3
      unfold lb_NC_at_17
      refine r_iload_n (pc := 17) hX 3 dX7_at_17 rfl rfl ?_
      refine r_aload_n (pc := 18) hX 0 dX7_at_18 rfl rfl ?_
      refine r_getR (pc := 19) hX dX7_at_19 fp7_10 k0 rfl g0_0 ?_
      refine r_getI (pc := 22) hX dX7_at_22 fp7_76 k10 (by decide) ?_
      refine r_icmp_ge (tgt := 74) (pc := 25) hX dX7_at_25 (by decide) ?_ ?_
      · skip
        refine r_iconst (pc := 74) hX dX7_at_74 ic_m1 ?_
        exact r_iretI (pc := 75) hX hE dX7_at_75
      · skip
        refine r_aload_n (pc := 28) hX 0 dX7_at_28 rfl rfl ?_
        refine r_getR (pc := 29) hX dX7_at_29 fp7_10 k0 rfl g0_0 ?_
        refine r_getR (pc := 32) hX dX7_at_32 fp7_190 k10 rfl g10_8 ?_
        refine r_iload_n (pc := 35) hX 3 dX7_at_35 rfl rfl ?_
        refine r_iald (pc := 36) hX dX7_at_36 k17 (fun v4 => ?_)
        refine r_iconst (pc := 37) hX dX7_at_37 ic_m1 ?_
        refine r_join (P := fun k => J X oI (k) m2 68 [(0, rX X 0), (1, .int a0), (2, .int a1), (3, .int v3)] []) ?_ ?_
        · skip
          refine r_iincN (L' := fun w => [(3, .int w), (0, rX X 0), (1, .int a0), (2, .int a1)]) (pc := 68) hX 3 dX7_at_68 rfl rfl (by decide) (fun _ => rfl) (fun v5 => ?_)
          refine r_goto (tgt := 17) (pc := 71) hX dX7_at_71 (by decide) ?_
          exact r_sub [1, 2, 3, 0] rfl (hs17 v5)
        intro k68_ hk68_
        refine r_icmp_eq (tgt := 68) (pc := 38) hX dX7_at_38 (by decide) ?_ ?_
        · skip
          exact hk68_
        · skip
          refine r_aload_n (pc := 41) hX 0 dX7_at_41 rfl rfl ?_
          refine r_getR (pc := 42) hX dX7_at_42 fp7_26 k0 rfl g0_2 ?_
          refine r_iload_n (pc := 45) hX 3 dX7_at_45 rfl rfl ?_
          refine r_aload_n (pc := 46) hX 0 dX7_at_46 rfl rfl ?_
          refine r_getR (pc := 47) hX dX7_at_47 fp7_10 k0 rfl g0_0 ?_
          refine r_getR (pc := 50) hX dX7_at_50 fp7_190 k10 rfl g10_8 ?_
          refine r_iload_n (pc := 53) hX 3 dX7_at_53 rfl rfl ?_
          refine r_iald (pc := 54) hX dX7_at_54 k17 (fun v6 => ?_)
          refine r_cvR (st := []) (pc := 55) hX dX7_at_55 MI_Lay_boxOf MV_Lay_boxOf lkX7_256 k3 (c_Lay_boxOf v3 v6 m2) rfl rfl (Nat.le_of_ble_eq_true rfl) (by decide) (fun b7 eb7 => ?_)
          have hb7 : kd b7 = 0 := p_Lay_boxOf _ _ _ _ eb7
          refine r_iload_n (pc := 58) hX 1 dX7_at_58 rfl rfl ?_
          refine r_iload_n (pc := 59) hX 2 dX7_at_59 rfl rfl ?_
          refine r_cvP (st := []) (pc := 60) hX dX7_at_60 MI_Box_covers MV_Box_covers lkX7_260 hb7 (c_Box_covers b7 a0 a1 hb7 m2) rfl rfl (Nat.le_of_ble_eq_true rfl) (by decide) (fun v8 => ?_)
          refine r_if_eq (tgt := 68) (pc := 63) hX dX7_at_63 (by decide) ?_ ?_
          · skip
            exact hk68_
          · skip
            refine r_iload_n (pc := 66) hX 3 dX7_at_66 rfl rfl ?_
            exact r_iretI (pc := 67) hX hE dX7_at_67
    exact r_sub [1, 2, 3, 0] rfl (hl17 FU (0 : Int32))
  · skip
    refine r_bipush (pc := 8) hX dX7_at_8 bp_m3 ?_
    exact r_iretI (pc := 10) hX hE dX7_at_10
def lb_NC_find_49 (a0 : Int32) (a1 : Int32) (a2 : Int32) (a3 : Int32) (a4 : Int32) (m4 : Me) (s49 : Int32 → Int32 → Option (Int32 × Me)) (v5 : Int32) (v6 : Int32) : Option (Int32 × Me) := if (m4.1 10 0) ≤ v6 then some ((-1 : Int32), m4) else rd (ln 17) v6 (m4.1 17) (fun v7 => bd (fun (v8 : Int32) => bd (v6 + 1) (fun v9 => (s49 v8 v9))) (fun k122_ => if v7 = (-1 : Int32) then (k122_ v5) else rd (ln 17) v6 (m4.1 17) (fun v10 => cP (f_Lay_boxOf v6 v10 m4) (fun b11 => cP (f_Box_overlaps b11 a0 a1 (a0 + a2) (a1 + a3) m4) (fun v12 => if v12 = 0 then (k122_ v5) else if v5 = a4 then some (v6, m4) else bd (v5 + 1) (fun v13 => (k122_ v13)))))))
def f_NC_find (a0 : Int32) (a1 : Int32) (a2 : Int32) (a3 : Int32) (a4 : Int32) (m : Me) : Option (Int32 × Me) := cP (f_NC_isPlace a0 a1 m) (fun v1 => if v1 = 0 then some ((-3 : Int32), m) else cP (f_NC_within a2 (1 : Int32) (1000 : Int32) m) (fun v2 => if v2 = 0 then some ((-3 : Int32), m) else cP (f_NC_within a3 (1 : Int32) (1000 : Int32) m) (fun v3 => if v3 = 0 then some ((-3 : Int32), m) else if 0 ≤ a4 then cP (f_NC_layOut m) (fun m4 => ((fx (lb_NC_find_49 a0 a1 a2 a3 a4 m4) (fun _ _ => none) FU) (0 : Int32) (0 : Int32))) else some ((-3 : Int32), m))))
set_option maxHeartbeats 4000000 in
set_option maxRecDepth 100000 in
theorem c_NC_find (a0 : Int32) (a1 : Int32) (a2 : Int32) (a3 : Int32) (a4 : Int32)  (m : Me) (r : Int32) (m' : Me) (h : f_NC_find a0 a1 a2 a3 a4 m = some (r, m')) : Ct yX7_find cX7_find 8 (some .int) 5 (fun ad => [.ref (ad 0), .int a0, .int a1, .int a2, .int a3, .int a4]) m (fun ad => (some (.int r), m')) := by
  refine mk_ct (F := f_NC_find a0 a1 a2 a3 a4 m) (fun _ => oI) (r, m') h (fun _ => rfl) (by decide) (fun _ => Nat.le_of_ble_eq_true rfl) ?_
  intro X hX hE
  show J X oI (f_NC_find a0 a1 a2 a3 a4 m) m 0 [(0, rX X 0), (1, .int a0), (2, .int a1), (3, .int a2), (4, .int a3), (5, .int a4)] []
  unfold f_NC_find
  refine r_iload_n (pc := 0) hX 1 dX7_find_0 rfl rfl ?_
  refine r_iload_n (pc := 1) hX 2 dX7_find_1 rfl rfl ?_
  refine r_csP (st := []) (pc := 2) hX dX7_find_2 MI_NC_isPlace MS_NC_isPlace lkX7_72 (c_NC_isPlace a0 a1 m) rfl rfl (Nat.le_of_ble_eq_true rfl) (by decide) (fun v1 => ?_)
  refine r_if_eq (tgt := 36) (pc := 5) hX dX7_find_5 (by decide) ?_ ?_
  · skip
    refine r_bipush (pc := 36) hX dX7_find_36 bp_m3 ?_
    exact r_iretI (pc := 38) hX hE dX7_find_38
  · skip
    refine r_iload_n (pc := 8) hX 3 dX7_find_8 rfl rfl ?_
    refine r_iconst (pc := 9) hX dX7_find_9 ic_1 ?_
    refine r_sipush (pc := 10) hX dX7_find_10 sp_1000 ?_
    refine r_csP (st := []) (pc := 13) hX dX7_find_13 MI_NC_within MS_NC_within lkX7_103 (c_NC_within a2 (1 : Int32) (1000 : Int32) m) rfl rfl (Nat.le_of_ble_eq_true rfl) (by decide) (fun v2 => ?_)
    refine r_if_eq (tgt := 36) (pc := 16) hX dX7_find_16 (by decide) ?_ ?_
    · skip
      refine r_bipush (pc := 36) hX dX7_find_36 bp_m3 ?_
      exact r_iretI (pc := 38) hX hE dX7_find_38
    · skip
      refine r_iload (pc := 19) hX 4 dX7_find_19 rfl ?_
      refine r_iconst (pc := 21) hX dX7_find_21 ic_1 ?_
      refine r_sipush (pc := 22) hX dX7_find_22 sp_1000 ?_
      refine r_csP (st := []) (pc := 25) hX dX7_find_25 MI_NC_within MS_NC_within lkX7_103 (c_NC_within a3 (1 : Int32) (1000 : Int32) m) rfl rfl (Nat.le_of_ble_eq_true rfl) (by decide) (fun v3 => ?_)
      refine r_if_eq (tgt := 36) (pc := 28) hX dX7_find_28 (by decide) ?_ ?_
      · skip
        refine r_bipush (pc := 36) hX dX7_find_36 bp_m3 ?_
        exact r_iretI (pc := 38) hX hE dX7_find_38
      · skip
        refine r_iload (pc := 31) hX 5 dX7_find_31 rfl ?_
        refine r_if_ge (tgt := 39) (pc := 33) hX dX7_find_33 (by decide) ?_ ?_
        · skip
          refine r_aload_n (pc := 39) hX 0 dX7_find_39 rfl rfl ?_
          refine r_cvV (st := []) (pc := 40) hX dX7_find_40 MI_NC_layOut MV_NC_layOut lkX7_172 k0 (c_NC_layOut m) rfl rfl (Nat.le_of_ble_eq_true rfl) (by decide) (fun m4 => ?_)
          refine r_iconst (pc := 43) hX dX7_find_43 ic_0 ?_
          refine r_istore (L' := [(6, .int (0 : Int32)), (0, rX X 0), (1, .int a0), (2, .int a1), (3, .int a2), (4, .int a3), (5, .int a4)]) (pc := 44) hX dX7_find_44 (by decide) rfl ?_
          refine r_iconst (pc := 46) hX dX7_find_46 ic_0 ?_
          refine r_istore (L' := [(7, .int (0 : Int32)), (6, .int (0 : Int32)), (0, rX X 0), (1, .int a0), (2, .int a1), (3, .int a2), (4, .int a3), (5, .int a4)]) (pc := 47) hX dX7_find_47 (by decide) rfl ?_
          have hl49 : ∀ n : Nat, ∀ (v5 : Int32) (v6 : Int32), J X oI (fx (lb_NC_find_49 a0 a1 a2 a3 a4 m4) (fun _ _ => none) n v5 v6) m4 49 [(0, rX X 0), (1, .int a0), (2, .int a1), (3, .int a2), (4, .int a3), (5, .int a4), (6, .int v5), (7, .int v6)] [] := by
            refine fx_ind (fun (f : Int32 → Int32 → Option (Int32 × Me)) => ∀ (v5 : Int32) (v6 : Int32), J X oI (f v5 v6) m4 49 [(0, rX X 0), (1, .int a0), (2, .int a1), (3, .int a2), (4, .int a3), (5, .int a4), (6, .int v5), (7, .int v6)] []) (fun _ _ => r_none) ?_
            intro s49 hs49 v5 v6
            unfold lb_NC_find_49
            refine r_iload (pc := 49) hX 7 dX7_find_49 rfl ?_
            refine r_aload_n (pc := 51) hX 0 dX7_find_51 rfl rfl ?_
            refine r_getR (pc := 52) hX dX7_find_52 fp7_10 k0 rfl g0_0 ?_
            refine r_getI (pc := 55) hX dX7_find_55 fp7_76 k10 (by decide) ?_
            refine r_icmp_ge (tgt := 128) (pc := 58) hX dX7_find_58 (by decide) ?_ ?_
            · skip
              refine r_iconst (pc := 128) hX dX7_find_128 ic_m1 ?_
              exact r_iretI (pc := 129) hX hE dX7_find_129
            · skip
              refine r_aload_n (pc := 61) hX 0 dX7_find_61 rfl rfl ?_
              refine r_getR (pc := 62) hX dX7_find_62 fp7_10 k0 rfl g0_0 ?_
              refine r_getR (pc := 65) hX dX7_find_65 fp7_190 k10 rfl g10_8 ?_
              refine r_iload (pc := 68) hX 7 dX7_find_68 rfl ?_
              refine r_iald (pc := 70) hX dX7_find_70 k17 (fun v7 => ?_)
              refine r_iconst (pc := 71) hX dX7_find_71 ic_m1 ?_
              refine r_join (P := fun k => ∀ (v8 : Int32), J X oI (k v8) m4 122 [(0, rX X 0), (1, .int a0), (2, .int a1), (3, .int a2), (4, .int a3), (5, .int a4), (6, .int v8), (7, .int v6)] []) ?_ ?_
              · intro v8
                refine r_iincN (L' := fun w => [(7, .int w), (0, rX X 0), (1, .int a0), (2, .int a1), (3, .int a2), (4, .int a3), (5, .int a4), (6, .int v8)]) (pc := 122) hX 7 dX7_find_122 rfl rfl (by decide) (fun _ => rfl) (fun v9 => ?_)
                refine r_goto (tgt := 49) (pc := 125) hX dX7_find_125 (by decide) ?_
                exact r_sub [1, 2, 3, 4, 5, 6, 7, 0] rfl (hs49 v8 v9)
              intro k122_ hk122_
              refine r_icmp_eq (tgt := 122) (pc := 72) hX dX7_find_72 (by decide) ?_ ?_
              · skip
                exact hk122_ v5
              · skip
                refine r_aload_n (pc := 75) hX 0 dX7_find_75 rfl rfl ?_
                refine r_getR (pc := 76) hX dX7_find_76 fp7_26 k0 rfl g0_2 ?_
                refine r_iload (pc := 79) hX 7 dX7_find_79 rfl ?_
                refine r_aload_n (pc := 81) hX 0 dX7_find_81 rfl rfl ?_
                refine r_getR (pc := 82) hX dX7_find_82 fp7_10 k0 rfl g0_0 ?_
                refine r_getR (pc := 85) hX dX7_find_85 fp7_190 k10 rfl g10_8 ?_
                refine r_iload (pc := 88) hX 7 dX7_find_88 rfl ?_
                refine r_iald (pc := 90) hX dX7_find_90 k17 (fun v10 => ?_)
                refine r_cvR (st := []) (pc := 91) hX dX7_find_91 MI_Lay_boxOf MV_Lay_boxOf lkX7_256 k3 (c_Lay_boxOf v6 v10 m4) rfl rfl (Nat.le_of_ble_eq_true rfl) (by decide) (fun b11 eb11 => ?_)
                have hb11 : kd b11 = 0 := p_Lay_boxOf _ _ _ _ eb11
                refine r_iload_n (pc := 94) hX 1 dX7_find_94 rfl rfl ?_
                refine r_iload_n (pc := 95) hX 2 dX7_find_95 rfl rfl ?_
                refine r_iload_n (pc := 96) hX 1 dX7_find_96 rfl rfl ?_
                refine r_iload_n (pc := 97) hX 3 dX7_find_97 rfl rfl ?_
                refine r_iadd (pc := 98) hX dX7_find_98 ?_
                refine r_iload_n (pc := 99) hX 2 dX7_find_99 rfl rfl ?_
                refine r_iload (pc := 100) hX 4 dX7_find_100 rfl ?_
                refine r_iadd (pc := 102) hX dX7_find_102 ?_
                refine r_cvP (st := []) (pc := 103) hX dX7_find_103 MI_Box_overlaps MV_Box_overlaps lkX7_263 hb11 (c_Box_overlaps b11 a0 a1 (a0 + a2) (a1 + a3) hb11 m4) rfl rfl (Nat.le_of_ble_eq_true rfl) (by decide) (fun v12 => ?_)
                refine r_if_eq (tgt := 122) (pc := 106) hX dX7_find_106 (by decide) ?_ ?_
                · skip
                  exact hk122_ v5
                · skip
                  refine r_iload (pc := 109) hX 6 dX7_find_109 rfl ?_
                  refine r_iload (pc := 111) hX 5 dX7_find_111 rfl ?_
                  refine r_icmp_ne (tgt := 119) (pc := 113) hX dX7_find_113 (by decide) ?_ ?_
                  · skip
                    refine r_iincN (L' := fun w => [(6, .int w), (0, rX X 0), (1, .int a0), (2, .int a1), (3, .int a2), (4, .int a3), (5, .int a4), (7, .int v6)]) (pc := 119) hX 6 dX7_find_119 rfl rfl (by decide) (fun _ => rfl) (fun v13 => ?_)
                    exact r_sub [1, 2, 3, 4, 5, 6, 0, 7] rfl (hk122_ v13)
                  · skip
                    refine r_iload (pc := 116) hX 7 dX7_find_116 rfl ?_
                    exact r_iretI (pc := 118) hX hE dX7_find_118
          exact r_sub [2, 3, 4, 5, 6, 7, 1, 0] rfl (hl49 FU (0 : Int32) (0 : Int32))
        · skip
          refine r_bipush (pc := 36) hX dX7_find_36 bp_m3 ?_
          exact r_iretI (pc := 38) hX hE dX7_find_38
def f_NC_undo  (m : Me) : Option (Int32 × Me) := if (m.1 1 2) = 0 then some ((-4 : Int32), m) else cP (f_Hist_takeBack m) (fun m1 => cP (f_NC_forgetDrawing m1) (fun m2 => some ((m2.1 1 2), m2)))
set_option maxHeartbeats 4000000 in
set_option maxRecDepth 100000 in
theorem c_NC_undo   (m : Me) (r : Int32) (m' : Me) (h : f_NC_undo  m = some (r, m')) : Ct yX7_undo cX7_undo 1 (some .int) 3 (fun ad => [.ref (ad 0)]) m (fun ad => (some (.int r), m')) := by
  refine mk_ct (F := f_NC_undo  m) (fun _ => oI) (r, m') h (fun _ => rfl) (by decide) (fun _ => Nat.le_of_ble_eq_true rfl) ?_
  intro X hX hE
  show J X oI (f_NC_undo  m) m 0 [(0, rX X 0)] []
  unfold f_NC_undo
  refine r_aload_n (pc := 0) hX 0 dX7_undo_0 rfl rfl ?_
  refine r_getR (pc := 1) hX dX7_undo_1 fp7_19 k0 rfl g0_1 ?_
  refine r_getI (pc := 4) hX dX7_undo_4 fp7_267 k1 (by decide) ?_
  refine r_if_ne (tgt := 13) (pc := 7) hX dX7_undo_7 (by decide) ?_ ?_
  · skip
    refine r_aload_n (pc := 13) hX 0 dX7_undo_13 rfl rfl ?_
    refine r_getR (pc := 14) hX dX7_undo_14 fp7_19 k0 rfl g0_1 ?_
    refine r_aload_n (pc := 17) hX 0 dX7_undo_17 rfl rfl ?_
    refine r_getR (pc := 18) hX dX7_undo_18 fp7_10 k0 rfl g0_0 ?_
    refine r_cvV (st := []) (pc := 21) hX dX7_undo_21 MI_Hist_takeBack MV_Hist_takeBack lkX7_270 k1 (c_Hist_takeBack m) rfl rfl (Nat.le_of_ble_eq_true rfl) (by decide) (fun m1 => ?_)
    refine r_aload_n (pc := 24) hX 0 dX7_undo_24 rfl rfl ?_
    refine r_cvV (st := []) (pc := 25) hX dX7_undo_25 MI_NC_forgetDrawing MV_NC_forgetDrawing lkX7_273 k0 (c_NC_forgetDrawing m1) rfl rfl (Nat.le_of_ble_eq_true rfl) (by decide) (fun m2 => ?_)
    refine r_aload_n (pc := 28) hX 0 dX7_undo_28 rfl rfl ?_
    refine r_getR (pc := 29) hX dX7_undo_29 fp7_19 k0 rfl g0_1 ?_
    refine r_getI (pc := 32) hX dX7_undo_32 fp7_267 k1 (by decide) ?_
    exact r_iretI (pc := 35) hX hE dX7_undo_35
  · skip
    refine r_bipush (pc := 10) hX dX7_undo_10 bp_m4 ?_
    exact r_iretI (pc := 12) hX hE dX7_undo_12
def lb_NC_musts_4 (m : Me) (s4 : Int32 → Int32 → Option Int32) (v1 : Int32) (v2 : Int32) : Option Int32 := if (m.1 10 0) ≤ v2 then some v1 else rd (ln 11) v2 (m.1 11) (fun v3 => bd (fun (v4 : Int32) => cP (f_NC_yes v4 m) (fun v5 => bd ((v1 + v5)) (fun v6 => bd (v2 + 1) (fun v7 => (s4 v6 v7))))) (fun k34_ => if v3 = (3 : Int32) then (k34_ (1 : Int32)) else (k34_ (0 : Int32))))
def f_NC_musts  (m : Me) : Option Int32 := ((fx (lb_NC_musts_4 m) (fun _ _ => none) FU) (0 : Int32) (0 : Int32))
set_option maxHeartbeats 4000000 in
set_option maxRecDepth 100000 in
theorem c_NC_musts   (m : Me) (r : Int32) (h : f_NC_musts  m = some r) : Ct yX7_musts cX7_musts 3 (some .int) 1 (fun ad => [.ref (ad 0)]) m (fun ad => (some (.int r), m)) := by
  refine mk_ct (F := f_NC_musts  m) (fun _ => oP m) r h (fun _ => rfl) (by decide) (fun _ => Nat.le_of_ble_eq_true rfl) ?_
  intro X hX hE
  show J X (oP m) (f_NC_musts  m) m 0 [(0, rX X 0)] []
  unfold f_NC_musts
  refine r_iconst (pc := 0) hX dX7_musts_0 ic_0 ?_
  refine r_istore_n (L' := [(1, .int (0 : Int32)), (0, rX X 0)]) (pc := 1) hX dX7_musts_1 rfl (by decide) rfl ?_
  refine r_iconst (pc := 2) hX dX7_musts_2 ic_0 ?_
  refine r_istore_n (L' := [(2, .int (0 : Int32)), (1, .int (0 : Int32)), (0, rX X 0)]) (pc := 3) hX dX7_musts_3 rfl (by decide) rfl ?_
  have hl4 : ∀ n : Nat, ∀ (v1 : Int32) (v2 : Int32), J X (oP m) (fx (lb_NC_musts_4 m) (fun _ _ => none) n v1 v2) m 4 [(0, rX X 0), (1, .int v1), (2, .int v2)] [] := by
    refine fx_ind (fun (f : Int32 → Int32 → Option Int32) => ∀ (v1 : Int32) (v2 : Int32), J X (oP m) (f v1 v2) m 4 [(0, rX X 0), (1, .int v1), (2, .int v2)] []) (fun _ _ => r_none) ?_
    intro s4 hs4 v1 v2
    unfold lb_NC_musts_4
    refine r_iload_n (pc := 4) hX 2 dX7_musts_4 rfl rfl ?_
    refine r_aload_n (pc := 5) hX 0 dX7_musts_5 rfl rfl ?_
    refine r_getR (pc := 6) hX dX7_musts_6 fp7_10 k0 rfl g0_0 ?_
    refine r_getI (pc := 9) hX dX7_musts_9 fp7_76 k10 (by decide) ?_
    refine r_icmp_ge (tgt := 45) (pc := 12) hX dX7_musts_12 (by decide) ?_ ?_
    · skip
      refine r_iload_n (pc := 45) hX 1 dX7_musts_45 rfl rfl ?_
      exact r_iretP (pc := 46) hX hE dX7_musts_46
    · skip
      refine r_iload_n (pc := 15) hX 1 dX7_musts_15 rfl rfl ?_
      refine r_aload_n (pc := 16) hX 0 dX7_musts_16 rfl rfl ?_
      refine r_getR (pc := 17) hX dX7_musts_17 fp7_10 k0 rfl g0_0 ?_
      refine r_getR (pc := 20) hX dX7_musts_20 fp7_116 k10 rfl g10_2 ?_
      refine r_iload_n (pc := 23) hX 2 dX7_musts_23 rfl rfl ?_
      refine r_iald (pc := 24) hX dX7_musts_24 k11 (fun v3 => ?_)
      refine r_iconst (pc := 25) hX dX7_musts_25 ic_3 ?_
      refine r_join (P := fun k => ∀ (v4 : Int32), J X (oP m) (k v4) m 34 [(0, rX X 0), (2, .int v2)] [.int v4, .int v1]) ?_ ?_
      · intro v4
        refine r_csP (st := [.int v1]) (pc := 34) hX dX7_musts_34 MI_NC_yes MS_NC_yes lkX7_135 (c_NC_yes v4 m) rfl rfl (Nat.le_of_ble_eq_true rfl) (by decide) (fun v5 => ?_)
        refine r_iadd (pc := 37) hX dX7_musts_37 ?_
        refine r_nmI (fun v6 => ?_)
        refine r_istore_n (L' := [(1, .int v6), (0, rX X 0), (2, .int v2)]) (pc := 38) hX dX7_musts_38 rfl (by decide) rfl ?_
        refine r_iincN (L' := fun w => [(2, .int w), (1, .int v6), (0, rX X 0)]) (pc := 39) hX 2 dX7_musts_39 rfl rfl (by decide) (fun _ => rfl) (fun v7 => ?_)
        refine r_goto (tgt := 4) (pc := 42) hX dX7_musts_42 (by decide) ?_
        exact r_sub [2, 1, 0] rfl (hs4 v6 v7)
      intro k34_ hk34_
      refine r_icmp_ne (tgt := 33) (pc := 26) hX dX7_musts_26 (by decide) ?_ ?_
      · skip
        refine r_iconst (pc := 33) hX dX7_musts_33 ic_0 ?_
        exact r_sub [0, 2] rfl (hk34_ (0 : Int32))
      · skip
        refine r_iconst (pc := 29) hX dX7_musts_29 ic_1 ?_
        refine r_goto (tgt := 34) (pc := 30) hX dX7_musts_30 (by decide) ?_
        exact r_sub [0, 2] rfl (hk34_ (1 : Int32))
  exact r_sub [2, 1, 0] rfl (hl4 FU (0 : Int32) (0 : Int32))
def f_NC_count (a0 : Int32) (m : Me) : Option (Int32 × Me) := if a0 = (0 : Int32) then some ((m.1 10 0), m) else if a0 = (1 : Int32) then some ((m.1 10 1), m) else if a0 = (2 : Int32) then cP (f_NC_leftInHand m) (fun v1 => some (v1, m)) else if a0 = (3 : Int32) then some ((m.1 1 2), m) else if a0 = (4 : Int32) then cP (f_NC_musts m) (fun v2 => some (v2, m)) else if a0 = (5 : Int32) then cP (f_NC_splitUp m) (fun m3 => some ((m3.1 6 3), m3)) else some ((-3 : Int32), m)
set_option maxHeartbeats 4000000 in
set_option maxRecDepth 100000 in
theorem c_NC_count (a0 : Int32)  (m : Me) (r : Int32) (m' : Me) (h : f_NC_count a0 m = some (r, m')) : Ct yX7_count cX7_count 2 (some .int) 7 (fun ad => [.ref (ad 0), .int a0]) m (fun ad => (some (.int r), m')) := by
  refine mk_ct (F := f_NC_count a0 m) (fun _ => oI) (r, m') h (fun _ => rfl) (by decide) (fun _ => Nat.le_of_ble_eq_true rfl) ?_
  intro X hX hE
  show J X oI (f_NC_count a0 m) m 0 [(0, rX X 0), (1, .int a0)] []
  unfold f_NC_count
  refine r_iload_n (pc := 0) hX 1 dX7_count_0 rfl rfl ?_
  refine r_ite (fun hs0 => ?_) (fun hs0 => ?_)
  · refine r_swIn (tgt := 40) (pc := 1) hX dX7_count_1 (by rw [hs0]; decide) (by rw [hs0]; decide) (by rw [hs0]; rfl) (by decide) ?_
    refine r_aload_n (pc := 40) hX 0 dX7_count_40 rfl rfl ?_
    refine r_getR (pc := 41) hX dX7_count_41 fp7_10 k0 rfl g0_0 ?_
    refine r_getI (pc := 44) hX dX7_count_44 fp7_76 k10 (by decide) ?_
    exact r_iretI (pc := 47) hX hE dX7_count_47
  refine r_ite (fun hs1 => ?_) (fun hs1 => ?_)
  · refine r_swIn (tgt := 48) (pc := 1) hX dX7_count_1 (by rw [hs1]; decide) (by rw [hs1]; decide) (by rw [hs1]; rfl) (by decide) ?_
    refine r_aload_n (pc := 48) hX 0 dX7_count_48 rfl rfl ?_
    refine r_getR (pc := 49) hX dX7_count_49 fp7_10 k0 rfl g0_0 ?_
    refine r_getI (pc := 52) hX dX7_count_52 fp7_87 k10 (by decide) ?_
    exact r_iretI (pc := 55) hX hE dX7_count_55
  refine r_ite (fun hs2 => ?_) (fun hs2 => ?_)
  · refine r_swIn (tgt := 56) (pc := 1) hX dX7_count_1 (by rw [hs2]; decide) (by rw [hs2]; decide) (by rw [hs2]; rfl) (by decide) ?_
    refine r_aload_n (pc := 56) hX 0 dX7_count_56 rfl rfl ?_
    refine r_cvP (st := []) (pc := 57) hX dX7_count_57 MI_NC_leftInHand MV_NC_leftInHand lkX7_237 k0 (c_NC_leftInHand m) rfl rfl (Nat.le_of_ble_eq_true rfl) (by decide) (fun v1 => ?_)
    exact r_iretI (pc := 60) hX hE dX7_count_60
  refine r_ite (fun hs3 => ?_) (fun hs3 => ?_)
  · refine r_swIn (tgt := 61) (pc := 1) hX dX7_count_1 (by rw [hs3]; decide) (by rw [hs3]; decide) (by rw [hs3]; rfl) (by decide) ?_
    refine r_aload_n (pc := 61) hX 0 dX7_count_61 rfl rfl ?_
    refine r_getR (pc := 62) hX dX7_count_62 fp7_19 k0 rfl g0_1 ?_
    refine r_getI (pc := 65) hX dX7_count_65 fp7_267 k1 (by decide) ?_
    exact r_iretI (pc := 68) hX hE dX7_count_68
  refine r_ite (fun hs4 => ?_) (fun hs4 => ?_)
  · refine r_swIn (tgt := 69) (pc := 1) hX dX7_count_1 (by rw [hs4]; decide) (by rw [hs4]; decide) (by rw [hs4]; rfl) (by decide) ?_
    refine r_aload_n (pc := 69) hX 0 dX7_count_69 rfl rfl ?_
    refine r_cvP (st := []) (pc := 70) hX dX7_count_70 MI_NC_musts MV_NC_musts lkX7_276 k0 (c_NC_musts m) rfl rfl (Nat.le_of_ble_eq_true rfl) (by decide) (fun v2 => ?_)
    exact r_iretI (pc := 73) hX hE dX7_count_73
  refine r_ite (fun hs5 => ?_) (fun hs5 => ?_)
  · refine r_swIn (tgt := 74) (pc := 1) hX dX7_count_1 (by rw [hs5]; decide) (by rw [hs5]; decide) (by rw [hs5]; rfl) (by decide) ?_
    refine r_aload_n (pc := 74) hX 0 dX7_count_74 rfl rfl ?_
    refine r_cvV (st := []) (pc := 75) hX dX7_count_75 MI_NC_splitUp MV_NC_splitUp lkX7_126 k0 (c_NC_splitUp m) rfl rfl (Nat.le_of_ble_eq_true rfl) (by decide) (fun m3 => ?_)
    refine r_aload_n (pc := 78) hX 0 dX7_count_78 rfl rfl ?_
    refine r_getR (pc := 79) hX dX7_count_79 fp7_33 k0 rfl g0_3 ?_
    refine r_getI (pc := 82) hX dX7_count_82 fp7_206 k6 (by decide) ?_
    exact r_iretI (pc := 85) hX hE dX7_count_85
  refine r_swOut (tgt := 86) (pc := 1) hX dX7_count_1 (sw_def (n := 5) (by decide) (fun k hk => by rcases (show k = 0 ∨ k = 1 ∨ k = 2 ∨ k = 3 ∨ k = 4 ∨ k = 5 by omega) with rfl | rfl | rfl | rfl | rfl | rfl <;> first | exact hs0 | exact hs1 | exact hs2 | exact hs3 | exact hs4 | exact hs5)) (by decide) ?_
  refine r_bipush (pc := 86) hX dX7_count_86 bp_m3 ?_
  exact r_iretI (pc := 88) hX hE dX7_count_88
