def lb_Arrays_fill_5 (a0 : Nat) (a1 : Int32) (v1 : Int32) (s5 : Int32 → Me → Option Me) (v2 : Int32) (m3 : Me) : Option Me := if v1 ≤ v2 then some m3 else wi m3 a0 (ln a0) v2 a1 (fun m4 => bd (v2 + 1) (fun v5 => (s5 v5 m4)))
def f_Arrays_fill (a0 : Nat) (a1 : Int32) (m : Me) : Option Me := bd ((Int32.ofNat (ln a0))) (fun v1 => ((fx (lb_Arrays_fill_5 a0 a1 v1) (fun _ _ => none) FU) (0 : Int32) m))
set_option maxHeartbeats 4000000 in
set_option maxRecDepth 100000 in
theorem c_Arrays_fill (a0 : Nat) (a1 : Int32) (ha0 : kd a0 = 20) (m : Me) (r : Me) (h : f_Arrays_fill a0 a1 m = some r) : Ct yJ7_fill_53178 cJ7_fill_53178 4 none 0 (fun ad => [.ref (ad a0), .int a1]) m (fun ad => (none, r)) := by
  refine mk_ct (F := f_Arrays_fill a0 a1 m) (fun _ => oV) r h (fun _ => rfl) (by decide) (fun _ => Nat.le_of_ble_eq_true rfl) ?_
  intro X hX hE
  show J X oV (f_Arrays_fill a0 a1 m) m 0 [(0, rX X a0), (1, .int a1)] []
  unfold f_Arrays_fill
  refine r_iconst (pc := 0) hX dJ7_fill_53178_0 ic_0 ?_
  refine r_istore_n (L' := [(2, .int (0 : Int32)), (0, rX X a0), (1, .int a1)]) (pc := 1) hX dJ7_fill_53178_1 rfl (by decide) rfl ?_
  refine r_aload_n (pc := 2) hX 1 dJ7_fill_53178_2 rfl rfl ?_
  refine r_alen (pc := 3) hX dJ7_fill_53178_3 ha0 ?_
  refine r_nmI (fun v1 => ?_)
  refine r_istore_n (L' := [(3, .int v1), (2, .int (0 : Int32)), (0, rX X a0), (1, .int a1)]) (pc := 4) hX dJ7_fill_53178_4 rfl (by decide) rfl ?_
  have hl5 : ∀ n : Nat, ∀ (v2 : Int32) (m3 : Me), J X oV (fx (lb_Arrays_fill_5 a0 a1 v1) (fun _ _ => none) n v2 m3) m3 5 [(0, rX X a0), (1, .int a1), (2, .int v2), (3, .int v1)] [] := by
    refine fx_ind (fun (f : Int32 → Me → Option Me) => ∀ (v2 : Int32) (m3 : Me), J X oV (f v2 m3) m3 5 [(0, rX X a0), (1, .int a1), (2, .int v2), (3, .int v1)] []) (fun _ _ => r_none) ?_
    intro s5 hs5 v2 m3
    unfold lb_Arrays_fill_5
    refine r_iload_n (pc := 5) hX 2 dJ7_fill_53178_5 rfl rfl ?_
    refine r_iload_n (pc := 6) hX 3 dJ7_fill_53178_6 rfl rfl ?_
    refine r_icmp_ge (tgt := 20) (pc := 7) hX dJ7_fill_53178_7 (by decide) ?_ ?_
    · skip
      exact r_vret (pc := 20) hX hE dJ7_fill_53178_20
    · skip
      refine r_aload_n (pc := 10) hX 0 dJ7_fill_53178_10 rfl rfl ?_
      refine r_iload_n (pc := 11) hX 2 dJ7_fill_53178_11 rfl rfl ?_
      refine r_iload_n (pc := 12) hX 1 dJ7_fill_53178_12 rfl rfl ?_
      refine r_iast (pc := 13) hX dJ7_fill_53178_13 ha0 (fun m4 => ?_)
      refine r_iincN (L' := fun w => [(2, .int w), (0, rX X a0), (1, .int a1), (3, .int v1)]) (pc := 14) hX 2 dJ7_fill_53178_14 rfl rfl (by decide) (fun _ => rfl) (fun v5 => ?_)
      refine r_goto (tgt := 5) (pc := 17) hX dJ7_fill_53178_17 (by decide) ?_
      exact r_sub [1, 2, 0, 3] rfl (hs5 v5 m4)
  exact r_sub [2, 3, 1, 0] rfl (hl5 FU (0 : Int32) m)
def f_Plan_isThere (a0 : Int32) (a1 : Int32) (m : Me) : Option Int32 := rd (ln 106) a0 (m.1 106) (fun v1 => if v1 = (-1 : Int32) then some (0 : Int32) else rd (ln 106) a0 (m.1 106) (fun v2 => if a1 < v2 then some (0 : Int32) else some (1 : Int32)))
set_option maxHeartbeats 4000000 in
set_option maxRecDepth 100000 in
theorem c_Plan_isThere (a0 : Int32) (a1 : Int32)  (m : Me) (r : Int32) (h : f_Plan_isThere a0 a1 m = some r) : Ct yX5_isThere cX5_isThere 3 (some .boolean) 0 (fun ad => [.ref (ad 105), .int a0, .int a1]) m (fun ad => (some (.int r), m)) := by
  refine mk_ct (F := f_Plan_isThere a0 a1 m) (fun _ => oP m) r h (fun _ => rfl) (by decide) (fun _ => Nat.le_of_ble_eq_true rfl) ?_
  intro X hX hE
  show J X (oP m) (f_Plan_isThere a0 a1 m) m 0 [(0, rX X 105), (1, .int a0), (2, .int a1)] []
  unfold f_Plan_isThere
  refine r_aload_n (pc := 0) hX 0 dX5_isThere_0 rfl rfl ?_
  refine r_getR (pc := 1) hX dX5_isThere_1 fp5_9 k105 rfl g105_0 ?_
  refine r_iload_n (pc := 4) hX 1 dX5_isThere_4 rfl rfl ?_
  refine r_iald (pc := 5) hX dX5_isThere_5 k106 (fun v1 => ?_)
  refine r_iconst (pc := 6) hX dX5_isThere_6 ic_m1 ?_
  refine r_icmp_eq (tgt := 24) (pc := 7) hX dX5_isThere_7 (by decide) ?_ ?_
  · skip
    refine r_iconst (pc := 24) hX dX5_isThere_24 ic_0 ?_
    exact r_zretPk (pc := 25) hX hE dX5_isThere_25 (by decide)
  · skip
    refine r_aload_n (pc := 10) hX 0 dX5_isThere_10 rfl rfl ?_
    refine r_getR (pc := 11) hX dX5_isThere_11 fp5_9 k105 rfl g105_0 ?_
    refine r_iload_n (pc := 14) hX 1 dX5_isThere_14 rfl rfl ?_
    refine r_iald (pc := 15) hX dX5_isThere_15 k106 (fun v2 => ?_)
    refine r_iload_n (pc := 16) hX 2 dX5_isThere_16 rfl rfl ?_
    refine r_icmp_gt (tgt := 24) (pc := 17) hX dX5_isThere_17 (by decide) ?_ ?_
    · skip
      refine r_iconst (pc := 24) hX dX5_isThere_24 ic_0 ?_
      exact r_zretPk (pc := 25) hX hE dX5_isThere_25 (by decide)
    · skip
      refine r_iconst (pc := 20) hX dX5_isThere_20 ic_1 ?_
      refine r_goto (tgt := 25) (pc := 21) hX dX5_isThere_21 (by decide) ?_
      exact r_zretPk (pc := 25) hX hE dX5_isThere_25 (by decide)
def lb_Plan_fits_30 (a3 : Int32) (s30 : Int32 → Me → Option (Int32 × Me)) (v3 : Int32) (m4 : Me) : Option (Int32 × Me) := if (m4.1 10 0) ≤ v3 then some ((1 : Int32), m4) else cP (f_Plan_isThere v3 a3 m4) (fun v5 => bd (fun (m6 : Me) => bd (v3 + 1) (fun v7 => (s30 v7 m6))) (fun k85_ => if v5 = 0 then (k85_ m4) else rd (ln 107) v3 (m4.1 107) (fun v8 => cP (f_Box_lay 1387 v3 v8 a3 m4) (fun m9 => cP (f_Box_hits 1386 1387 m9) (fun v10 => if v10 = 0 then (k85_ m9) else some ((0 : Int32), m9))))))
def f_Plan_fits (a1 : Int32) (a2 : Int32) (a3 : Int32) (m : Me) : Option (Int32 × Me) := cP (f_Box_lay 1386 a1 a2 a3 m) (fun m1 => cP (f_Box_isOpen 1386 a3 m1) (fun v2 => if v2 = 0 then some ((0 : Int32), m1) else ((fx (lb_Plan_fits_30 a3) (fun _ _ => none) FU) (0 : Int32) m1)))
set_option maxHeartbeats 4000000 in
set_option maxRecDepth 100000 in
theorem c_Plan_fits (a1 : Int32) (a2 : Int32) (a3 : Int32)  (m : Me) (r : Int32) (m' : Me) (h : f_Plan_fits a1 a2 a3 m = some (r, m')) : Ct yX5_fits cX5_fits 6 (some .boolean) 3 (fun ad => [.ref (ad 105), .ref (ad 10), .int a1, .int a2, .int a3]) m (fun ad => (some (.int r), m')) := by
  refine mk_ct (F := f_Plan_fits a1 a2 a3 m) (fun _ => oI) (r, m') h (fun _ => rfl) (by decide) (fun _ => Nat.le_of_ble_eq_true rfl) ?_
  intro X hX hE
  show J X oI (f_Plan_fits a1 a2 a3 m) m 0 [(0, rX X 105), (1, rX X 10), (2, .int a1), (3, .int a2), (4, .int a3)] []
  unfold f_Plan_fits
  refine r_aload_n (pc := 0) hX 0 dX5_fits_0 rfl rfl ?_
  refine r_getR (pc := 1) hX dX5_fits_1 fp5_24 k105 rfl g105_3 ?_
  refine r_aload_n (pc := 4) hX 1 dX5_fits_4 rfl rfl ?_
  refine r_iload_n (pc := 5) hX 2 dX5_fits_5 rfl rfl ?_
  refine r_iload_n (pc := 6) hX 3 dX5_fits_6 rfl rfl ?_
  refine r_iload (pc := 7) hX 4 dX5_fits_7 rfl ?_
  refine r_cvV (st := []) (pc := 9) hX dX5_fits_9 MI_Box_lay MV_Box_lay lkX5_63 k1386 (c_Box_lay 1386 a1 a2 a3 k1386 m) rfl rfl (Nat.le_of_ble_eq_true rfl) (by decide) (fun m1 => ?_)
  refine r_aload_n (pc := 12) hX 0 dX5_fits_12 rfl rfl ?_
  refine r_getR (pc := 13) hX dX5_fits_13 fp5_24 k105 rfl g105_3 ?_
  refine r_aload_n (pc := 16) hX 1 dX5_fits_16 rfl rfl ?_
  refine r_iload (pc := 17) hX 4 dX5_fits_17 rfl ?_
  refine r_cvP (st := []) (pc := 19) hX dX5_fits_19 MI_Box_isOpen MV_Box_isOpen lkX5_67 k1386 (c_Box_isOpen 1386 a3 k1386 m1) rfl rfl (Nat.le_of_ble_eq_true rfl) (by decide) (fun v2 => ?_)
  refine r_if_ne (tgt := 27) (pc := 22) hX dX5_fits_22 (by decide) ?_ ?_
  · skip
    refine r_iconst (pc := 27) hX dX5_fits_27 ic_0 ?_
    refine r_istore (L' := [(5, .int (0 : Int32)), (0, rX X 105), (1, rX X 10), (2, .int a1), (3, .int a2), (4, .int a3)]) (pc := 28) hX dX5_fits_28 (by decide) rfl ?_
    have hl30 : ∀ n : Nat, ∀ (v3 : Int32) (m4 : Me), J X oI (fx (lb_Plan_fits_30 a3) (fun _ _ => none) n v3 m4) m4 30 [(0, rX X 105), (1, rX X 10), (4, .int a3), (5, .int v3)] [] := by
      refine fx_ind (fun (f : Int32 → Me → Option (Int32 × Me)) => ∀ (v3 : Int32) (m4 : Me), J X oI (f v3 m4) m4 30 [(0, rX X 105), (1, rX X 10), (4, .int a3), (5, .int v3)] []) (fun _ _ => r_none) ?_
      intro s30 hs30 v3 m4
      unfold lb_Plan_fits_30
      refine r_iload (pc := 30) hX 3 dX5_fits_30 rfl ?_
      refine r_aload_n (pc := 32) hX 1 dX5_fits_32 rfl rfl ?_
      refine r_getI (pc := 33) hX dX5_fits_33 fp5_47 k10 (by decide) ?_
      refine r_icmp_ge (tgt := 91) (pc := 36) hX dX5_fits_36 (by decide) ?_ ?_
      · skip
        refine r_iconst (pc := 91) hX dX5_fits_91 ic_1 ?_
        exact r_zretIk (pc := 92) hX hE dX5_fits_92 (by decide)
      · skip
        refine r_aload_n (pc := 39) hX 0 dX5_fits_39 rfl rfl ?_
        refine r_iload (pc := 40) hX 3 dX5_fits_40 rfl ?_
        refine r_iload (pc := 42) hX 2 dX5_fits_42 rfl ?_
        refine r_cvP (st := []) (pc := 44) hX dX5_fits_44 MI_Plan_isThere MV_Plan_isThere lkX5_71 k105 (c_Plan_isThere v3 a3 m4) rfl rfl (Nat.le_of_ble_eq_true rfl) (by decide) (fun v5 => ?_)
        refine r_join (P := fun k => ∀ (m6 : Me), J X oI (k m6) m6 85 [(0, rX X 105), (1, rX X 10), (4, .int a3), (5, .int v3)] []) ?_ ?_
        · intro m6
          refine r_iincN (L' := fun w => [(5, .int w), (0, rX X 105), (1, rX X 10), (4, .int a3)]) (pc := 85) hX 3 dX5_fits_85 rfl rfl (by decide) (fun _ => rfl) (fun v7 => ?_)
          refine r_goto (tgt := 30) (pc := 88) hX dX5_fits_88 (by decide) ?_
          exact r_sub [1, 2, 3, 0] rfl (hs30 v7 m6)
        intro k85_ hk85_
        refine r_if_eq (tgt := 85) (pc := 47) hX dX5_fits_47 (by decide) ?_ ?_
        · skip
          exact hk85_ m4
        · skip
          refine r_aload_n (pc := 50) hX 0 dX5_fits_50 rfl rfl ?_
          refine r_getR (pc := 51) hX dX5_fits_51 fp5_28 k105 rfl g105_4 ?_
          refine r_aload_n (pc := 54) hX 1 dX5_fits_54 rfl rfl ?_
          refine r_iload (pc := 55) hX 3 dX5_fits_55 rfl ?_
          refine r_aload_n (pc := 57) hX 0 dX5_fits_57 rfl rfl ?_
          refine r_getR (pc := 58) hX dX5_fits_58 fp5_15 k105 rfl g105_1 ?_
          refine r_iload (pc := 61) hX 3 dX5_fits_61 rfl ?_
          refine r_iald (pc := 63) hX dX5_fits_63 k107 (fun v8 => ?_)
          refine r_iload (pc := 64) hX 2 dX5_fits_64 rfl ?_
          refine r_cvV (st := []) (pc := 66) hX dX5_fits_66 MI_Box_lay MV_Box_lay lkX5_63 k1387 (c_Box_lay 1387 v3 v8 a3 k1387 m4) rfl rfl (Nat.le_of_ble_eq_true rfl) (by decide) (fun m9 => ?_)
          refine r_aload_n (pc := 69) hX 0 dX5_fits_69 rfl rfl ?_
          refine r_getR (pc := 70) hX dX5_fits_70 fp5_24 k105 rfl g105_3 ?_
          refine r_aload_n (pc := 73) hX 0 dX5_fits_73 rfl rfl ?_
          refine r_getR (pc := 74) hX dX5_fits_74 fp5_28 k105 rfl g105_4 ?_
          refine r_cvP (st := []) (pc := 77) hX dX5_fits_77 MI_Box_hits MV_Box_hits lkX5_75 k1386 (c_Box_hits 1386 1387 k1386 k1387 m9) rfl rfl (Nat.le_of_ble_eq_true rfl) (by decide) (fun v10 => ?_)
          refine r_if_eq (tgt := 85) (pc := 80) hX dX5_fits_80 (by decide) ?_ ?_
          · skip
            exact hk85_ m9
          · skip
            refine r_iconst (pc := 83) hX dX5_fits_83 ic_0 ?_
            exact r_zretIk (pc := 84) hX hE dX5_fits_84 (by decide)
    exact r_sub [1, 2, 5, 0] rfl (hl30 FU (0 : Int32) m1)
  · skip
    refine r_iconst (pc := 25) hX dX5_fits_25 ic_0 ?_
    exact r_zretIk (pc := 26) hX hE dX5_fits_26 (by decide)
def lb_Plan_settle_27 (a1 : Int32) (v8 : Int32) (k53_ : Int32 → Me → Option Me) (s27 : Int32 → Me → Option Me) (v16 : Int32) (m17 : Me) : Option Me := if v16 ≤ 0 then (k53_ v16 m17) else cI (f_Plan_fits a1 v8 (v16 - (1 : Int32)) m17) (fun v18 m19 => if v18 = 0 then (k53_ v16 m19) else bd (v16 + Int32.ofInt (-1)) (fun v20 => (s27 v20 m19)))
def lb_Plan_settle_9 (a1 : Int32) (k72_ : Int32 → Int32 → Me → Option Me) (s9 : Int32 → Int32 → Int32 → Me → Option Me) (v6 : Int32) (v7 : Int32) (v8 : Int32) (m9 : Me) : Option Me := cP (f_Chart_waysOf a1 m9) (fun v10 => if v10 ≤ v8 then (k72_ v6 v7 m9) else if v6 ≤ 0 then (k72_ v6 v7 m9) else bd (fun (v11 : Int32) (m12 : Me) => bd (fun (v13 : Int32) (v14 : Int32) => bd (v8 + 1) (fun v15 => (s9 v13 v14 v15 m12))) (fun k66_ => if v6 ≤ v11 then (k66_ v6 v7) else (k66_ v11 v8))) (fun k53_ => ((fx (lb_Plan_settle_27 a1 v8 k53_) (fun _ _ => none) FU) (7 : Int32) m9)))
def f_Plan_settle (a1 : Int32) (m : Me) : Option Me := bd (fun (v1 : Int32) (v2 : Int32) (m3 : Me) => if v2 = (-1 : Int32) then some m3 else wi m3 106 (ln 106) a1 v1 (fun m4 => wi m4 107 (ln 107) a1 v2 (fun m5 => some m5))) (fun k72_ => ((fx (lb_Plan_settle_9 a1 k72_) (fun _ _ _ _ => none) FU) (7 : Int32) (-1 : Int32) (0 : Int32) m))
set_option maxHeartbeats 4000000 in
set_option maxRecDepth 100000 in
theorem c_Plan_settle (a1 : Int32)  (m : Me) (r : Me) (h : f_Plan_settle a1 m = some r) : Ct yX5_settle cX5_settle 7 none 4 (fun ad => [.ref (ad 105), .ref (ad 10), .int a1]) m (fun ad => (none, r)) := by
  refine mk_ct (F := f_Plan_settle a1 m) (fun _ => oV) r h (fun _ => rfl) (by decide) (fun _ => Nat.le_of_ble_eq_true rfl) ?_
  intro X hX hE
  show J X oV (f_Plan_settle a1 m) m 0 [(0, rX X 105), (1, rX X 10), (2, .int a1)] []
  unfold f_Plan_settle
  refine r_bipush (pc := 0) hX dX5_settle_0 bp_7 ?_
  refine r_istore_n (L' := [(3, .int (7 : Int32)), (0, rX X 105), (1, rX X 10), (2, .int a1)]) (pc := 2) hX dX5_settle_2 rfl (by decide) rfl ?_
  refine r_iconst (pc := 3) hX dX5_settle_3 ic_m1 ?_
  refine r_istore (L' := [(4, .int (-1 : Int32)), (3, .int (7 : Int32)), (0, rX X 105), (1, rX X 10), (2, .int a1)]) (pc := 4) hX dX5_settle_4 (by decide) rfl ?_
  refine r_iconst (pc := 6) hX dX5_settle_6 ic_0 ?_
  refine r_istore (L' := [(5, .int (0 : Int32)), (4, .int (-1 : Int32)), (3, .int (7 : Int32)), (0, rX X 105), (1, rX X 10), (2, .int a1)]) (pc := 7) hX dX5_settle_7 (by decide) rfl ?_
  refine r_join (P := fun k => ∀ (v1 : Int32) (v2 : Int32) (m3 : Me), J X oV (k v1 v2 m3) m3 72 [(0, rX X 105), (2, .int a1), (3, .int v1), (4, .int v2)] []) ?_ ?_
  · intro v1 v2 m3
    refine r_iload (pc := 72) hX 3 dX5_settle_72 rfl ?_
    refine r_iconst (pc := 74) hX dX5_settle_74 ic_m1 ?_
    refine r_icmp_eq (tgt := 93) (pc := 75) hX dX5_settle_75 (by decide) ?_ ?_
    · skip
      exact r_vret (pc := 93) hX hE dX5_settle_93
    · skip
      refine r_aload_n (pc := 78) hX 0 dX5_settle_78 rfl rfl ?_
      refine r_getR (pc := 79) hX dX5_settle_79 fp5_9 k105 rfl g105_0 ?_
      refine r_iload_n (pc := 82) hX 1 dX5_settle_82 rfl rfl ?_
      refine r_iload_n (pc := 83) hX 2 dX5_settle_83 rfl rfl ?_
      refine r_iast (pc := 84) hX dX5_settle_84 k106 (fun m4 => ?_)
      refine r_aload_n (pc := 85) hX 0 dX5_settle_85 rfl rfl ?_
      refine r_getR (pc := 86) hX dX5_settle_86 fp5_15 k105 rfl g105_1 ?_
      refine r_iload_n (pc := 89) hX 1 dX5_settle_89 rfl rfl ?_
      refine r_iload (pc := 90) hX 3 dX5_settle_90 rfl ?_
      refine r_iast (pc := 92) hX dX5_settle_92 k107 (fun m5 => ?_)
      exact r_vret (pc := 93) hX hE dX5_settle_93
  intro k72_ hk72_
  have hl9 : ∀ n : Nat, ∀ (v6 : Int32) (v7 : Int32) (v8 : Int32) (m9 : Me), J X oV (fx (lb_Plan_settle_9 a1 k72_) (fun _ _ _ _ => none) n v6 v7 v8 m9) m9 9 [(0, rX X 105), (1, rX X 10), (2, .int a1), (3, .int v6), (4, .int v7), (5, .int v8)] [] := by
    refine fx_ind (fun (f : Int32 → Int32 → Int32 → Me → Option Me) => ∀ (v6 : Int32) (v7 : Int32) (v8 : Int32) (m9 : Me), J X oV (f v6 v7 v8 m9) m9 9 [(0, rX X 105), (1, rX X 10), (2, .int a1), (3, .int v6), (4, .int v7), (5, .int v8)] []) (fun _ _ _ _ => r_none) ?_
    intro s9 hs9 v6 v7 v8 m9
    unfold lb_Plan_settle_9
    refine r_iload (pc := 9) hX 5 dX5_settle_9 rfl ?_
    refine r_aload_n (pc := 11) hX 1 dX5_settle_11 rfl rfl ?_
    refine r_iload_n (pc := 12) hX 2 dX5_settle_12 rfl rfl ?_
    refine r_cvP (st := [.int v8]) (pc := 13) hX dX5_settle_13 MI_Chart_waysOf MV_Chart_waysOf lkX5_55 k10 (c_Chart_waysOf a1 m9) rfl rfl (Nat.le_of_ble_eq_true rfl) (by decide) (fun v10 => ?_)
    refine r_icmp_ge (tgt := 72) (pc := 16) hX dX5_settle_16 (by decide) ?_ ?_
    · skip
      exact r_sub [0, 2, 3, 4] rfl (hk72_ v6 v7 m9)
    · skip
      refine r_iload_n (pc := 19) hX 3 dX5_settle_19 rfl rfl ?_
      refine r_if_le (tgt := 72) (pc := 20) hX dX5_settle_20 (by decide) ?_ ?_
      · skip
        exact r_sub [0, 2, 3, 4] rfl (hk72_ v6 v7 m9)
      · skip
        refine r_bipush (pc := 23) hX dX5_settle_23 bp_7 ?_
        refine r_istore (L' := [(6, .int (7 : Int32)), (0, rX X 105), (1, rX X 10), (2, .int a1), (3, .int v6), (4, .int v7), (5, .int v8)]) (pc := 25) hX dX5_settle_25 (by decide) rfl ?_
        refine r_join (P := fun k => ∀ (v11 : Int32) (m12 : Me), J X oV (k v11 m12) m12 53 [(0, rX X 105), (1, rX X 10), (2, .int a1), (3, .int v6), (4, .int v7), (5, .int v8), (6, .int v11)] []) ?_ ?_
        · intro v11 m12
          refine r_iload (pc := 53) hX 6 dX5_settle_53 rfl ?_
          refine r_iload_n (pc := 55) hX 3 dX5_settle_55 rfl rfl ?_
          refine r_join (P := fun k => ∀ (v13 : Int32) (v14 : Int32), J X oV (k v13 v14) m12 66 [(0, rX X 105), (1, rX X 10), (2, .int a1), (3, .int v13), (4, .int v14), (5, .int v8)] []) ?_ ?_
          · intro v13 v14
            refine r_iincN (L' := fun w => [(5, .int w), (0, rX X 105), (1, rX X 10), (2, .int a1), (3, .int v13), (4, .int v14)]) (pc := 66) hX 5 dX5_settle_66 rfl rfl (by decide) (fun _ => rfl) (fun v15 => ?_)
            refine r_goto (tgt := 9) (pc := 69) hX dX5_settle_69 (by decide) ?_
            exact r_sub [1, 2, 3, 4, 5, 0] rfl (hs9 v13 v14 v15 m12)
          intro k66_ hk66_
          refine r_icmp_ge (tgt := 66) (pc := 56) hX dX5_settle_56 (by decide) ?_ ?_
          · skip
            exact r_sub [0, 1, 2, 3, 4, 5] rfl (hk66_ v6 v7)
          · skip
            refine r_iload (pc := 59) hX 6 dX5_settle_59 rfl ?_
            refine r_istore_n (L' := [(3, .int v11), (0, rX X 105), (1, rX X 10), (2, .int a1), (4, .int v7), (5, .int v8), (6, .int v11)]) (pc := 61) hX dX5_settle_61 rfl (by decide) rfl ?_
            refine r_iload (pc := 62) hX 5 dX5_settle_62 rfl ?_
            refine r_istore (L' := [(4, .int v8), (3, .int v11), (0, rX X 105), (1, rX X 10), (2, .int a1), (5, .int v8), (6, .int v11)]) (pc := 64) hX dX5_settle_64 (by decide) rfl ?_
            exact r_sub [2, 3, 4, 1, 0, 5] rfl (hk66_ v11 v8)
        intro k53_ hk53_
        have hl27 : ∀ n : Nat, ∀ (v16 : Int32) (m17 : Me), J X oV (fx (lb_Plan_settle_27 a1 v8 k53_) (fun _ _ => none) n v16 m17) m17 27 [(0, rX X 105), (1, rX X 10), (2, .int a1), (3, .int v6), (4, .int v7), (5, .int v8), (6, .int v16)] [] := by
          refine fx_ind (fun (f : Int32 → Me → Option Me) => ∀ (v16 : Int32) (m17 : Me), J X oV (f v16 m17) m17 27 [(0, rX X 105), (1, rX X 10), (2, .int a1), (3, .int v6), (4, .int v7), (5, .int v8), (6, .int v16)] []) (fun _ _ => r_none) ?_
          intro s27 hs27 v16 m17
          unfold lb_Plan_settle_27
          refine r_iload (pc := 27) hX 6 dX5_settle_27 rfl ?_
          refine r_if_le (tgt := 53) (pc := 29) hX dX5_settle_29 (by decide) ?_ ?_
          · skip
            exact hk53_ v16 m17
          · skip
            refine r_aload_n (pc := 32) hX 0 dX5_settle_32 rfl rfl ?_
            refine r_aload_n (pc := 33) hX 1 dX5_settle_33 rfl rfl ?_
            refine r_iload_n (pc := 34) hX 2 dX5_settle_34 rfl rfl ?_
            refine r_iload (pc := 35) hX 5 dX5_settle_35 rfl ?_
            refine r_iload (pc := 37) hX 6 dX5_settle_37 rfl ?_
            refine r_iconst (pc := 39) hX dX5_settle_39 ic_1 ?_
            refine r_isub (pc := 40) hX dX5_settle_40 ?_
            refine r_cvI (st := []) (pc := 41) hX dX5_settle_41 MI_Plan_fits MV_Plan_fits lkX5_59 k105 (c_Plan_fits a1 v8 (v16 - (1 : Int32)) m17) rfl rfl (Nat.le_of_ble_eq_true rfl) (by decide) (fun v18 m19 => ?_)
            refine r_if_eq (tgt := 53) (pc := 44) hX dX5_settle_44 (by decide) ?_ ?_
            · skip
              exact hk53_ v16 m19
            · skip
              refine r_iincN (L' := fun w => [(6, .int w), (0, rX X 105), (1, rX X 10), (2, .int a1), (3, .int v6), (4, .int v7), (5, .int v8)]) (pc := 47) hX 6 dX5_settle_47 rfl rfl (by decide) (fun _ => rfl) (fun v20 => ?_)
              refine r_goto (tgt := 27) (pc := 50) hX dX5_settle_50 (by decide) ?_
              exact r_sub [1, 2, 3, 4, 5, 6, 0] rfl (hs27 v20 m19)
        exact r_sub [1, 2, 3, 4, 5, 6, 0] rfl (hl27 FU (7 : Int32) m9)
  exact r_sub [3, 4, 5, 2, 1, 0] rfl (hl9 FU (7 : Int32) (-1 : Int32) (0 : Int32) m)
def lb_Plan_refresh_39  (s39 : Int32 → Me → Option Me) (v5 : Int32) (m6 : Me) : Option Me := if (m6.1 10 0) ≤ v5 then some m6 else rd (ln 108) v5 (m6.1 108) (fun v7 => cP (f_Plan_settle v7 m6) (fun m8 => bd (v5 + 1) (fun v9 => (s39 v9 m8))))
def f_Plan_refresh  (m : Me) : Option Me := if (m.1 105 5) = 0 then pz m 105 5 (1 : Int32) (fun m1 => cP (f_Arrays_fill 106 (-1 : Int32) m1) (fun m2 => cP (f_Arrays_fill 107 (-1 : Int32) m2) (fun m3 => cP (f_Chart_queue 108 m3) (fun m4 => ((fx (lb_Plan_refresh_39) (fun _ _ => none) FU) (0 : Int32) m4))))) else some m
set_option maxHeartbeats 4000000 in
set_option maxRecDepth 100000 in
theorem c_Plan_refresh   (m : Me) (r : Me) (h : f_Plan_refresh  m = some r) : Ct yX5_refresh cX5_refresh 3 none 5 (fun ad => [.ref (ad 105), .ref (ad 10)]) m (fun ad => (none, r)) := by
  refine mk_ct (F := f_Plan_refresh  m) (fun _ => oV) r h (fun _ => rfl) (by decide) (fun _ => Nat.le_of_ble_eq_true rfl) ?_
  intro X hX hE
  show J X oV (f_Plan_refresh  m) m 0 [(0, rX X 105), (1, rX X 10)] []
  unfold f_Plan_refresh
  refine r_aload_n (pc := 0) hX 0 dX5_refresh_0 rfl rfl ?_
  refine r_getI (pc := 1) hX dX5_refresh_1 fp5_31 k105 (by decide) ?_
  refine r_if_eq (tgt := 8) (pc := 4) hX dX5_refresh_4 (by decide) ?_ ?_
  · skip
    refine r_aload_n (pc := 8) hX 0 dX5_refresh_8 rfl rfl ?_
    refine r_iconst (pc := 9) hX dX5_refresh_9 ic_1 ?_
    refine r_putZ (pc := 10) hX dX5_refresh_10 fp5_31 k105 (fun m1 => ?_)
    refine r_aload_n (pc := 13) hX 0 dX5_refresh_13 rfl rfl ?_
    refine r_getR (pc := 14) hX dX5_refresh_14 fp5_9 k105 rfl g105_0 ?_
    refine r_iconst (pc := 17) hX dX5_refresh_17 ic_m1 ?_
    refine r_csV (st := []) (pc := 18) hX dX5_refresh_18 MI_Arrays_fill MS_Arrays_fill lkX5_35 (c_Arrays_fill 106 (-1 : Int32) k106 m1) rfl rfl (Nat.le_of_ble_eq_true rfl) (by decide) (fun m2 => ?_)
    refine r_aload_n (pc := 21) hX 0 dX5_refresh_21 rfl rfl ?_
    refine r_getR (pc := 22) hX dX5_refresh_22 fp5_15 k105 rfl g105_1 ?_
    refine r_iconst (pc := 25) hX dX5_refresh_25 ic_m1 ?_
    refine r_csV (st := []) (pc := 26) hX dX5_refresh_26 MI_Arrays_fill MS_Arrays_fill lkX5_35 (c_Arrays_fill 107 (-1 : Int32) k107 m2) rfl rfl (Nat.le_of_ble_eq_true rfl) (by decide) (fun m3 => ?_)
    refine r_aload_n (pc := 29) hX 1 dX5_refresh_29 rfl rfl ?_
    refine r_aload_n (pc := 30) hX 0 dX5_refresh_30 rfl rfl ?_
    refine r_getR (pc := 31) hX dX5_refresh_31 fp5_18 k105 rfl g105_2 ?_
    refine r_cvV (st := []) (pc := 34) hX dX5_refresh_34 MI_Chart_queue MV_Chart_queue lkX5_41 k10 (c_Chart_queue 108 k108 m3) rfl rfl (Nat.le_of_ble_eq_true rfl) (by decide) (fun m4 => ?_)
    refine r_iconst (pc := 37) hX dX5_refresh_37 ic_0 ?_
    refine r_istore_n (L' := [(2, .int (0 : Int32)), (0, rX X 105), (1, rX X 10)]) (pc := 38) hX dX5_refresh_38 rfl (by decide) rfl ?_
    have hl39 : ∀ n : Nat, ∀ (v5 : Int32) (m6 : Me), J X oV (fx (lb_Plan_refresh_39) (fun _ _ => none) n v5 m6) m6 39 [(0, rX X 105), (1, rX X 10), (2, .int v5)] [] := by
      refine fx_ind (fun (f : Int32 → Me → Option Me) => ∀ (v5 : Int32) (m6 : Me), J X oV (f v5 m6) m6 39 [(0, rX X 105), (1, rX X 10), (2, .int v5)] []) (fun _ _ => r_none) ?_
      intro s39 hs39 v5 m6
      unfold lb_Plan_refresh_39
      refine r_iload_n (pc := 39) hX 2 dX5_refresh_39 rfl rfl ?_
      refine r_aload_n (pc := 40) hX 1 dX5_refresh_40 rfl rfl ?_
      refine r_getI (pc := 41) hX dX5_refresh_41 fp5_47 k10 (by decide) ?_
      refine r_icmp_ge (tgt := 64) (pc := 44) hX dX5_refresh_44 (by decide) ?_ ?_
      · skip
        exact r_vret (pc := 64) hX hE dX5_refresh_64
      · skip
        refine r_aload_n (pc := 47) hX 0 dX5_refresh_47 rfl rfl ?_
        refine r_aload_n (pc := 48) hX 1 dX5_refresh_48 rfl rfl ?_
        refine r_aload_n (pc := 49) hX 0 dX5_refresh_49 rfl rfl ?_
        refine r_getR (pc := 50) hX dX5_refresh_50 fp5_18 k105 rfl g105_2 ?_
        refine r_iload_n (pc := 53) hX 2 dX5_refresh_53 rfl rfl ?_
        refine r_iald (pc := 54) hX dX5_refresh_54 k108 (fun v7 => ?_)
        refine r_cvV (st := []) (pc := 55) hX dX5_refresh_55 MI_Plan_settle MV_Plan_settle lkX5_51 k105 (c_Plan_settle v7 m6) rfl rfl (Nat.le_of_ble_eq_true rfl) (by decide) (fun m8 => ?_)
        refine r_iincN (L' := fun w => [(2, .int w), (0, rX X 105), (1, rX X 10)]) (pc := 58) hX 2 dX5_refresh_58 rfl rfl (by decide) (fun _ => rfl) (fun v9 => ?_)
        refine r_goto (tgt := 39) (pc := 61) hX dX5_refresh_61 (by decide) ?_
        exact r_sub [1, 2, 0] rfl (hs39 v9 m8)
    exact r_sub [1, 2, 0] rfl (hl39 FU (0 : Int32) m4)
  · skip
    exact r_vret (pc := 7) hX hE dX5_refresh_7
