def f_Lay_boxOf (a0 : Int32) (a1 : Int32) (m : Me) : Option Nat := rd (ln 4) (((a0 * (16 : Int32))) + a1) (fun j => 1000 + j) (fun b1 => some b1)
set_option maxHeartbeats 4000000 in
set_option maxRecDepth 100000 in
theorem c_Lay_boxOf (a0 : Int32) (a1 : Int32)  (m : Me) (r : Nat) (h : f_Lay_boxOf a0 a1 m = some r) : Ct yX3_boxOf cX3_boxOf 3 (some (.object "NameChart$Box")) 0 (fun ad => [.ref (ad 3), .int a0, .int a1]) m (fun ad => (some (.ref (ad r)), m)) := by
  refine mk_ct (F := f_Lay_boxOf a0 a1 m) (fun ad => oR ad m) r h (fun _ => rfl) (by decide) (fun _ => Nat.le_of_ble_eq_true rfl) ?_
  intro X hX hE
  show J X (oR (xad X) m) (f_Lay_boxOf a0 a1 m) m 0 [(0, rX X 3), (1, .int a0), (2, .int a1)] []
  unfold f_Lay_boxOf
  refine r_aload_n (pc := 0) hX 0 dX3_boxOf_0 rfl rfl ?_
  refine r_getR (pc := 1) hX dX3_boxOf_1 fp3_11 k3 rfl g3_0 ?_
  refine r_iload_n (pc := 4) hX 1 dX3_boxOf_4 rfl rfl ?_
  refine r_bipush (pc := 5) hX dX3_boxOf_5 bp_16 ?_
  refine r_imul (pc := 7) hX dX3_boxOf_7 ?_
  refine r_iload_n (pc := 8) hX 2 dX3_boxOf_8 rfl rfl ?_
  refine r_iadd (pc := 9) hX dX3_boxOf_9 ?_
  refine r_aldB (pc := 10) hX dX3_boxOf_10 (fun b1 hb1 => ?_)
  exact r_aretR (pc := 11) hX hE dX3_boxOf_11
theorem p_Lay_boxOf (a0 a1 : Int32) (m : Me) (r : Nat) (h : f_Lay_boxOf a0 a1 m = some r) : kd r = 0 := by
  unfold f_Lay_boxOf rd at h
  split at h
  · cases h
  · cases h
    exact kdB (by omega)
def lb_Lay_refresh_32 (v2 : Int32) (k90_ : Me → Option Me) (s32 : Int32 → Me → Option Me) (v7 : Int32) (m8 : Me) : Option Me := cP (f_Chart_waysOf v2 m8) (fun v9 => if v9 ≤ v7 then (k90_ m8) else cP (f_Lay_boxOf v2 v7 m8) (fun b10 => cP (f_Box_lay b10 v2 v7 (0 : Int32) m8) (fun m11 => rd (ln 5) v2 (m11.1 5) (fun v12 => cP (f_Box_isOpen b10 (0 : Int32) m11) (fun v13 => bd (fun (v14 : Int32) => wi m11 5 (ln 5) v2 (v12 ||| v14) (fun m15 => bd (v7 + 1) (fun v16 => (s32 v16 m15)))) (fun k82_ => if v13 = 0 then (k82_ (0 : Int32)) else (k82_ (((1 : Int32) <<< (v7 &&& 31))))))))))
def lb_Lay_refresh_15  (s15 : Int32 → Me → Option Me) (v2 : Int32) (m3 : Me) : Option Me := if (m3.1 10 0) ≤ v2 then some m3 else wi m3 5 (ln 5) v2 (0 : Int32) (fun m4 => bd (fun (m5 : Me) => bd (v2 + 1) (fun v6 => (s15 v6 m5))) (fun k90_ => ((fx (lb_Lay_refresh_32 v2 k90_) (fun _ _ => none) FU) (0 : Int32) m4)))
def f_Lay_refresh  (m : Me) : Option Me := if (m.1 3 2) = 0 then pz m 3 2 (1 : Int32) (fun m1 => ((fx (lb_Lay_refresh_15) (fun _ _ => none) FU) (0 : Int32) m1)) else some m
set_option maxHeartbeats 4000000 in
set_option maxRecDepth 100000 in
theorem c_Lay_refresh   (m : Me) (r : Me) (h : f_Lay_refresh  m = some r) : Ct yX3_refresh cX3_refresh 5 none 3 (fun ad => [.ref (ad 3), .ref (ad 10)]) m (fun ad => (none, r)) := by
  refine mk_ct (F := f_Lay_refresh  m) (fun _ => oV) r h (fun _ => rfl) (by decide) (fun _ => Nat.le_of_ble_eq_true rfl) ?_
  intro X hX hE
  show J X oV (f_Lay_refresh  m) m 0 [(0, rX X 3), (1, rX X 10)] []
  unfold f_Lay_refresh
  refine r_aload_n (pc := 0) hX 0 dX3_refresh_0 rfl rfl ?_
  refine r_getI (pc := 1) hX dX3_refresh_1 fp3_22 k3 (by decide) ?_
  refine r_if_eq (tgt := 8) (pc := 4) hX dX3_refresh_4 (by decide) ?_ ?_
  · skip
    refine r_aload_n (pc := 8) hX 0 dX3_refresh_8 rfl rfl ?_
    refine r_iconst (pc := 9) hX dX3_refresh_9 ic_1 ?_
    refine r_putZ (pc := 10) hX dX3_refresh_10 fp3_22 k3 (fun m1 => ?_)
    refine r_iconst (pc := 13) hX dX3_refresh_13 ic_0 ?_
    refine r_istore_n (L' := [(2, .int (0 : Int32)), (0, rX X 3), (1, rX X 10)]) (pc := 14) hX dX3_refresh_14 rfl (by decide) rfl ?_
    have hl15 : ∀ n : Nat, ∀ (v2 : Int32) (m3 : Me), J X oV (fx (lb_Lay_refresh_15) (fun _ _ => none) n v2 m3) m3 15 [(0, rX X 3), (1, rX X 10), (2, .int v2)] [] := by
      refine fx_ind (fun (f : Int32 → Me → Option Me) => ∀ (v2 : Int32) (m3 : Me), J X oV (f v2 m3) m3 15 [(0, rX X 3), (1, rX X 10), (2, .int v2)] []) (fun _ _ => r_none) ?_
      intro s15 hs15 v2 m3
      unfold lb_Lay_refresh_15
      refine r_iload_n (pc := 15) hX 2 dX3_refresh_15 rfl rfl ?_
      refine r_aload_n (pc := 16) hX 1 dX3_refresh_16 rfl rfl ?_
      refine r_getI (pc := 17) hX dX3_refresh_17 fp3_26 k10 (by decide) ?_
      refine r_icmp_ge (tgt := 96) (pc := 20) hX dX3_refresh_20 (by decide) ?_ ?_
      · skip
        exact r_vret (pc := 96) hX hE dX3_refresh_96
      · skip
        refine r_aload_n (pc := 23) hX 0 dX3_refresh_23 rfl rfl ?_
        refine r_getR (pc := 24) hX dX3_refresh_24 fp3_17 k3 rfl g3_1 ?_
        refine r_iload_n (pc := 27) hX 2 dX3_refresh_27 rfl rfl ?_
        refine r_iconst (pc := 28) hX dX3_refresh_28 ic_0 ?_
        refine r_iast (pc := 29) hX dX3_refresh_29 k5 (fun m4 => ?_)
        refine r_iconst (pc := 30) hX dX3_refresh_30 ic_0 ?_
        refine r_istore_n (L' := [(3, .int (0 : Int32)), (0, rX X 3), (1, rX X 10), (2, .int v2)]) (pc := 31) hX dX3_refresh_31 rfl (by decide) rfl ?_
        refine r_join (P := fun k => ∀ (m5 : Me), J X oV (k m5) m5 90 [(0, rX X 3), (1, rX X 10), (2, .int v2)] []) ?_ ?_
        · intro m5
          refine r_iincN (L' := fun w => [(2, .int w), (0, rX X 3), (1, rX X 10)]) (pc := 90) hX 2 dX3_refresh_90 rfl rfl (by decide) (fun _ => rfl) (fun v6 => ?_)
          refine r_goto (tgt := 15) (pc := 93) hX dX3_refresh_93 (by decide) ?_
          exact r_sub [1, 2, 0] rfl (hs15 v6 m5)
        intro k90_ hk90_
        have hl32 : ∀ n : Nat, ∀ (v7 : Int32) (m8 : Me), J X oV (fx (lb_Lay_refresh_32 v2 k90_) (fun _ _ => none) n v7 m8) m8 32 [(0, rX X 3), (1, rX X 10), (2, .int v2), (3, .int v7)] [] := by
          refine fx_ind (fun (f : Int32 → Me → Option Me) => ∀ (v7 : Int32) (m8 : Me), J X oV (f v7 m8) m8 32 [(0, rX X 3), (1, rX X 10), (2, .int v2), (3, .int v7)] []) (fun _ _ => r_none) ?_
          intro s32 hs32 v7 m8
          unfold lb_Lay_refresh_32
          refine r_iload_n (pc := 32) hX 3 dX3_refresh_32 rfl rfl ?_
          refine r_aload_n (pc := 33) hX 1 dX3_refresh_33 rfl rfl ?_
          refine r_iload_n (pc := 34) hX 2 dX3_refresh_34 rfl rfl ?_
          refine r_cvP (st := [.int v7]) (pc := 35) hX dX3_refresh_35 MI_Chart_waysOf MV_Chart_waysOf lkX3_32 k10 (c_Chart_waysOf v2 m8) rfl rfl (Nat.le_of_ble_eq_true rfl) (by decide) (fun v9 => ?_)
          refine r_icmp_ge (tgt := 90) (pc := 38) hX dX3_refresh_38 (by decide) ?_ ?_
          · skip
            exact r_sub [0, 1, 2] rfl (hk90_ m8)
          · skip
            refine r_aload_n (pc := 41) hX 0 dX3_refresh_41 rfl rfl ?_
            refine r_iload_n (pc := 42) hX 2 dX3_refresh_42 rfl rfl ?_
            refine r_iload_n (pc := 43) hX 3 dX3_refresh_43 rfl rfl ?_
            refine r_cvR (st := []) (pc := 44) hX dX3_refresh_44 MI_Lay_boxOf MV_Lay_boxOf lkX3_36 k3 (c_Lay_boxOf v2 v7 m8) rfl rfl (Nat.le_of_ble_eq_true rfl) (by decide) (fun b10 eb10 => ?_)
            have hb10 : kd b10 = 0 := p_Lay_boxOf _ _ _ _ eb10
            refine r_astore (L' := [(4, rX X b10), (0, rX X 3), (1, rX X 10), (2, .int v2), (3, .int v7)]) (pc := 47) hX dX3_refresh_47 (by decide) rfl ?_
            refine r_aload (pc := 49) hX 0 dX3_refresh_49 rfl ?_
            refine r_aload_n (pc := 51) hX 2 dX3_refresh_51 rfl rfl ?_
            refine r_iload_n (pc := 52) hX 3 dX3_refresh_52 rfl rfl ?_
            refine r_iload_n (pc := 53) hX 4 dX3_refresh_53 rfl rfl ?_
            refine r_iconst (pc := 54) hX dX3_refresh_54 ic_0 ?_
            refine r_cvV (st := []) (pc := 55) hX dX3_refresh_55 MI_Box_lay MV_Box_lay lkX3_40 hb10 (c_Box_lay b10 v2 v7 (0 : Int32) hb10 m8) rfl rfl (Nat.le_of_ble_eq_true rfl) (by decide) (fun m11 => ?_)
            refine r_aload_n (pc := 58) hX 1 dX3_refresh_58 rfl rfl ?_
            refine r_getR (pc := 59) hX dX3_refresh_59 fp3_17 k3 rfl g3_1 ?_
            refine r_iload_n (pc := 62) hX 3 dX3_refresh_62 rfl rfl ?_
            refine r_dup2 (pc := 63) hX dX3_refresh_63 rfl rfl ?_
            refine r_iald (pc := 64) hX dX3_refresh_64 k5 (fun v12 => ?_)
            refine r_aload (pc := 65) hX 0 dX3_refresh_65 rfl ?_
            refine r_aload_n (pc := 67) hX 2 dX3_refresh_67 rfl rfl ?_
            refine r_iconst (pc := 68) hX dX3_refresh_68 ic_0 ?_
            refine r_cvP (st := [.int v12, .int v2, rX X 5]) (pc := 69) hX dX3_refresh_69 MI_Box_isOpen MV_Box_isOpen lkX3_44 hb10 (c_Box_isOpen b10 (0 : Int32) hb10 m11) rfl rfl (Nat.le_of_ble_eq_true rfl) (by decide) (fun v13 => ?_)
            refine r_join (P := fun k => ∀ (v14 : Int32), J X oV (k v14) m11 82 [(0, rX X 3), (1, rX X 10), (2, .int v2), (3, .int v7)] [.int v14, .int v12, .int v2, rX X 5]) ?_ ?_
            · intro v14
              refine r_ior (pc := 82) hX dX3_refresh_82 ?_
              refine r_iast (pc := 83) hX dX3_refresh_83 k5 (fun m15 => ?_)
              refine r_iincN (L' := fun w => [(3, .int w), (0, rX X 3), (1, rX X 10), (2, .int v2)]) (pc := 84) hX 3 dX3_refresh_84 rfl rfl (by decide) (fun _ => rfl) (fun v16 => ?_)
              refine r_goto (tgt := 32) (pc := 87) hX dX3_refresh_87 (by decide) ?_
              exact r_sub [1, 2, 3, 0] rfl (hs32 v16 m15)
            intro k82_ hk82_
            refine r_if_eq (tgt := 81) (pc := 72) hX dX3_refresh_72 (by decide) ?_ ?_
            · skip
              refine r_iconst (pc := 81) hX dX3_refresh_81 ic_0 ?_
              exact r_sub [1, 2, 3, 4] rfl (hk82_ (0 : Int32))
            · skip
              refine r_iconst (pc := 75) hX dX3_refresh_75 ic_1 ?_
              refine r_iload_n (pc := 76) hX 4 dX3_refresh_76 rfl rfl ?_
              refine r_ishl (pc := 77) hX dX3_refresh_77 ?_
              refine r_goto (tgt := 82) (pc := 78) hX dX3_refresh_78 (by decide) ?_
              exact r_sub [1, 2, 3, 4] rfl (hk82_ (((1 : Int32) <<< (v7 &&& 31))))
        exact r_sub [1, 2, 3, 0] rfl (hl32 FU (0 : Int32) m4)
    exact r_sub [1, 2, 0] rfl (hl15 FU (0 : Int32) m1)
  · skip
    exact r_vret (pc := 7) hX hE dX3_refresh_7
def f_Lay_isOpen (a0 : Int32) (a1 : Int32) (m : Me) : Option Int32 := rd (ln 5) a0 (m.1 5) (fun v1 => if (((v1 >>> (a1 &&& 31))) &&& (1 : Int32)) = (1 : Int32) then some (1 : Int32) else some (0 : Int32))
set_option maxHeartbeats 4000000 in
set_option maxRecDepth 100000 in
theorem c_Lay_isOpen (a0 : Int32) (a1 : Int32)  (m : Me) (r : Int32) (h : f_Lay_isOpen a0 a1 m = some r) : Ct yX3_isOpen cX3_isOpen 3 (some .boolean) 0 (fun ad => [.ref (ad 3), .int a0, .int a1]) m (fun ad => (some (.int r), m)) := by
  refine mk_ct (F := f_Lay_isOpen a0 a1 m) (fun _ => oP m) r h (fun _ => rfl) (by decide) (fun _ => Nat.le_of_ble_eq_true rfl) ?_
  intro X hX hE
  show J X (oP m) (f_Lay_isOpen a0 a1 m) m 0 [(0, rX X 3), (1, .int a0), (2, .int a1)] []
  unfold f_Lay_isOpen
  refine r_aload_n (pc := 0) hX 0 dX3_isOpen_0 rfl rfl ?_
  refine r_getR (pc := 1) hX dX3_isOpen_1 fp3_17 k3 rfl g3_1 ?_
  refine r_iload_n (pc := 4) hX 1 dX3_isOpen_4 rfl rfl ?_
  refine r_iald (pc := 5) hX dX3_isOpen_5 k5 (fun v1 => ?_)
  refine r_iload_n (pc := 6) hX 2 dX3_isOpen_6 rfl rfl ?_
  refine r_ishr (pc := 7) hX dX3_isOpen_7 ?_
  refine r_iconst (pc := 8) hX dX3_isOpen_8 ic_1 ?_
  refine r_iand (pc := 9) hX dX3_isOpen_9 ?_
  refine r_iconst (pc := 10) hX dX3_isOpen_10 ic_1 ?_
  refine r_icmp_ne (tgt := 18) (pc := 11) hX dX3_isOpen_11 (by decide) ?_ ?_
  · skip
    refine r_iconst (pc := 18) hX dX3_isOpen_18 ic_0 ?_
    exact r_zretPk (pc := 19) hX hE dX3_isOpen_19 (by decide)
  · skip
    refine r_iconst (pc := 14) hX dX3_isOpen_14 ic_1 ?_
    refine r_goto (tgt := 19) (pc := 15) hX dX3_isOpen_15 (by decide) ?_
    exact r_zretPk (pc := 19) hX hE dX3_isOpen_19 (by decide)
def lb_Lay_openHits_14 (a2 : Int32) (m : Me) (b1 : Nat) (s14 : Int32 → Int32 → Option Int32) (v2 : Int32) (v3 : Int32) : Option Int32 := if (16 : Int32) ≤ v3 then some v2 else cP (f_Lay_isOpen a2 v3 m) (fun v4 => bd (fun (v5 : Int32) => bd (v3 + 1) (fun v6 => (s14 v5 v6))) (fun k55_ => if v4 = 0 then (k55_ v2) else cP (f_Lay_boxOf a2 v3 m) (fun b7 => cP (f_Box_hits b1 b7 m) (fun v8 => if v8 = 0 then (k55_ v2) else bd ((v2 ||| (((1 : Int32) <<< (v3 &&& 31))))) (fun v9 => (k55_ v9))))))
def f_Lay_openHits (a0 : Int32) (a1 : Int32) (a2 : Int32) (m : Me) : Option Int32 := cP (f_Lay_boxOf a0 a1 m) (fun b1 => ((fx (lb_Lay_openHits_14 a2 m b1) (fun _ _ => none) FU) (0 : Int32) (0 : Int32)))
set_option maxHeartbeats 4000000 in
set_option maxRecDepth 100000 in
theorem c_Lay_openHits (a0 : Int32) (a1 : Int32) (a2 : Int32)  (m : Me) (r : Int32) (h : f_Lay_openHits a0 a1 a2 m = some r) : Ct yX3_openHits cX3_openHits 7 (some .int) 3 (fun ad => [.ref (ad 3), .int a0, .int a1, .int a2]) m (fun ad => (some (.int r), m)) := by
  refine mk_ct (F := f_Lay_openHits a0 a1 a2 m) (fun _ => oP m) r h (fun _ => rfl) (by decide) (fun _ => Nat.le_of_ble_eq_true rfl) ?_
  intro X hX hE
  show J X (oP m) (f_Lay_openHits a0 a1 a2 m) m 0 [(0, rX X 3), (1, .int a0), (2, .int a1), (3, .int a2)] []
  unfold f_Lay_openHits
  refine r_aload_n (pc := 0) hX 0 dX3_openHits_0 rfl rfl ?_
  refine r_iload_n (pc := 1) hX 1 dX3_openHits_1 rfl rfl ?_
  refine r_iload_n (pc := 2) hX 2 dX3_openHits_2 rfl rfl ?_
  refine r_cvR (st := []) (pc := 3) hX dX3_openHits_3 MI_Lay_boxOf MV_Lay_boxOf lkX3_36 k3 (c_Lay_boxOf a0 a1 m) rfl rfl (Nat.le_of_ble_eq_true rfl) (by decide) (fun b1 eb1 => ?_)
  have hb1 : kd b1 = 0 := p_Lay_boxOf _ _ _ _ eb1
  refine r_astore (L' := [(4, rX X b1), (0, rX X 3), (1, .int a0), (2, .int a1), (3, .int a2)]) (pc := 6) hX dX3_openHits_6 (by decide) rfl ?_
  refine r_iconst (pc := 8) hX dX3_openHits_8 ic_0 ?_
  refine r_istore (L' := [(5, .int (0 : Int32)), (4, rX X b1), (0, rX X 3), (1, .int a0), (2, .int a1), (3, .int a2)]) (pc := 9) hX dX3_openHits_9 (by decide) rfl ?_
  refine r_iconst (pc := 11) hX dX3_openHits_11 ic_0 ?_
  refine r_istore (L' := [(6, .int (0 : Int32)), (5, .int (0 : Int32)), (4, rX X b1), (0, rX X 3), (1, .int a0), (2, .int a1), (3, .int a2)]) (pc := 12) hX dX3_openHits_12 (by decide) rfl ?_
  have hl14 : ∀ n : Nat, ∀ (v2 : Int32) (v3 : Int32), J X (oP m) (fx (lb_Lay_openHits_14 a2 m b1) (fun _ _ => none) n v2 v3) m 14 [(0, rX X 3), (3, .int a2), (4, rX X b1), (5, .int v2), (6, .int v3)] [] := by
    refine fx_ind (fun (f : Int32 → Int32 → Option Int32) => ∀ (v2 : Int32) (v3 : Int32), J X (oP m) (f v2 v3) m 14 [(0, rX X 3), (3, .int a2), (4, rX X b1), (5, .int v2), (6, .int v3)] []) (fun _ _ => r_none) ?_
    intro s14 hs14 v2 v3
    unfold lb_Lay_openHits_14
    refine r_iload (pc := 14) hX 4 dX3_openHits_14 rfl ?_
    refine r_bipush (pc := 16) hX dX3_openHits_16 bp_16 ?_
    refine r_icmp_ge (tgt := 61) (pc := 18) hX dX3_openHits_18 (by decide) ?_ ?_
    · skip
      refine r_iload (pc := 61) hX 3 dX3_openHits_61 rfl ?_
      exact r_iretP (pc := 63) hX hE dX3_openHits_63
    · skip
      refine r_aload_n (pc := 21) hX 0 dX3_openHits_21 rfl rfl ?_
      refine r_iload_n (pc := 22) hX 1 dX3_openHits_22 rfl rfl ?_
      refine r_iload (pc := 23) hX 4 dX3_openHits_23 rfl ?_
      refine r_cvP (st := []) (pc := 25) hX dX3_openHits_25 MI_Lay_isOpen MV_Lay_isOpen lkX3_48 k3 (c_Lay_isOpen a2 v3 m) rfl rfl (Nat.le_of_ble_eq_true rfl) (by decide) (fun v4 => ?_)
      refine r_join (P := fun k => ∀ (v5 : Int32), J X (oP m) (k v5) m 55 [(0, rX X 3), (3, .int a2), (4, rX X b1), (5, .int v5), (6, .int v3)] []) ?_ ?_
      · intro v5
        refine r_iincN (L' := fun w => [(6, .int w), (0, rX X 3), (3, .int a2), (4, rX X b1), (5, .int v5)]) (pc := 55) hX 4 dX3_openHits_55 rfl rfl (by decide) (fun _ => rfl) (fun v6 => ?_)
        refine r_goto (tgt := 14) (pc := 58) hX dX3_openHits_58 (by decide) ?_
        exact r_sub [1, 2, 3, 4, 0] rfl (hs14 v5 v6)
      intro k55_ hk55_
      refine r_if_eq (tgt := 55) (pc := 28) hX dX3_openHits_28 (by decide) ?_ ?_
      · skip
        exact hk55_ v2
      · skip
        refine r_aload (pc := 31) hX 2 dX3_openHits_31 rfl ?_
        refine r_aload_n (pc := 33) hX 0 dX3_openHits_33 rfl rfl ?_
        refine r_iload_n (pc := 34) hX 1 dX3_openHits_34 rfl rfl ?_
        refine r_iload (pc := 35) hX 4 dX3_openHits_35 rfl ?_
        refine r_cvR (st := [rX X b1]) (pc := 37) hX dX3_openHits_37 MI_Lay_boxOf MV_Lay_boxOf lkX3_36 k3 (c_Lay_boxOf a2 v3 m) rfl rfl (Nat.le_of_ble_eq_true rfl) (by decide) (fun b7 eb7 => ?_)
        have hb7 : kd b7 = 0 := p_Lay_boxOf _ _ _ _ eb7
        refine r_cvP (st := []) (pc := 40) hX dX3_openHits_40 MI_Box_hits MV_Box_hits lkX3_51 hb1 (c_Box_hits b1 b7 hb1 hb7 m) rfl rfl (Nat.le_of_ble_eq_true rfl) (by decide) (fun v8 => ?_)
        refine r_if_eq (tgt := 55) (pc := 43) hX dX3_openHits_43 (by decide) ?_ ?_
        · skip
          exact hk55_ v2
        · skip
          refine r_iload (pc := 46) hX 3 dX3_openHits_46 rfl ?_
          refine r_iconst (pc := 48) hX dX3_openHits_48 ic_1 ?_
          refine r_iload (pc := 49) hX 4 dX3_openHits_49 rfl ?_
          refine r_ishl (pc := 51) hX dX3_openHits_51 ?_
          refine r_ior (pc := 52) hX dX3_openHits_52 ?_
          refine r_nmI (fun v9 => ?_)
          refine r_istore (L' := [(5, .int v9), (0, rX X 3), (3, .int a2), (4, rX X b1), (6, .int v3)]) (pc := 53) hX dX3_openHits_53 (by decide) rfl ?_
          exact r_sub [1, 2, 3, 0, 4] rfl (hk55_ v9)
  exact r_sub [3, 6, 2, 1, 0] rfl (hl14 FU (0 : Int32) (0 : Int32))
def lb_Lay_openWaysClash_11 (a0 : Int32) (a1 : Int32) (m : Me) (v1 : Int32) (k64_ : Option Int32) (s11 : Int32 → Option Int32) (v3 : Int32) : Option Int32 := if (16 : Int32) ≤ v3 then (k64_) else cP (f_Lay_isOpen a0 v1 m) (fun v4 => if v4 = 0 then (k64_) else cP (f_Lay_isOpen a1 v3 m) (fun v5 => bd (bd (v3 + 1) (fun v6 => (s11 v6))) (fun k58_ => if v5 = 0 then (k58_) else cP (f_Lay_boxOf a0 v1 m) (fun b7 => cP (f_Lay_boxOf a1 v3 m) (fun b8 => cP (f_Box_hits b7 b8 m) (fun v9 => if v9 = 0 then (k58_) else some (1 : Int32)))))))
def lb_Lay_openWaysClash_2 (a0 : Int32) (a1 : Int32) (m : Me) (s2 : Int32 → Option Int32) (v1 : Int32) : Option Int32 := if (16 : Int32) ≤ v1 then some (0 : Int32) else bd (bd (v1 + 1) (fun v2 => (s2 v2))) (fun k64_ => ((fx (lb_Lay_openWaysClash_11 a0 a1 m v1 k64_) (fun _ => none) FU) (0 : Int32)))
def f_Lay_openWaysClash (a0 : Int32) (a1 : Int32) (m : Me) : Option Int32 := ((fx (lb_Lay_openWaysClash_2 a0 a1 m) (fun _ => none) FU) (0 : Int32))
set_option maxHeartbeats 4000000 in
set_option maxRecDepth 100000 in
theorem c_Lay_openWaysClash (a0 : Int32) (a1 : Int32)  (m : Me) (r : Int32) (h : f_Lay_openWaysClash a0 a1 m = some r) : Ct yX3_openWaysClash cX3_openWaysClash 5 (some .boolean) 3 (fun ad => [.ref (ad 3), .int a0, .int a1]) m (fun ad => (some (.int r), m)) := by
  refine mk_ct (F := f_Lay_openWaysClash a0 a1 m) (fun _ => oP m) r h (fun _ => rfl) (by decide) (fun _ => Nat.le_of_ble_eq_true rfl) ?_
  intro X hX hE
  show J X (oP m) (f_Lay_openWaysClash a0 a1 m) m 0 [(0, rX X 3), (1, .int a0), (2, .int a1)] []
  unfold f_Lay_openWaysClash
  refine r_iconst (pc := 0) hX dX3_openWaysClash_0 ic_0 ?_
  refine r_istore_n (L' := [(3, .int (0 : Int32)), (0, rX X 3), (1, .int a0), (2, .int a1)]) (pc := 1) hX dX3_openWaysClash_1 rfl (by decide) rfl ?_
  have hl2 : ∀ n : Nat, ∀ (v1 : Int32), J X (oP m) (fx (lb_Lay_openWaysClash_2 a0 a1 m) (fun _ => none) n v1) m 2 [(0, rX X 3), (1, .int a0), (2, .int a1), (3, .int v1)] [] := by
    refine fx_ind (fun (f : Int32 → Option Int32) => ∀ (v1 : Int32), J X (oP m) (f v1) m 2 [(0, rX X 3), (1, .int a0), (2, .int a1), (3, .int v1)] []) (fun _ => r_none) ?_
    intro s2 hs2 v1
    unfold lb_Lay_openWaysClash_2
    refine r_iload_n (pc := 2) hX 3 dX3_openWaysClash_2 rfl rfl ?_
    refine r_bipush (pc := 3) hX dX3_openWaysClash_3 bp_16 ?_
    refine r_icmp_ge (tgt := 70) (pc := 5) hX dX3_openWaysClash_5 (by decide) ?_ ?_
    · skip
      refine r_iconst (pc := 70) hX dX3_openWaysClash_70 ic_0 ?_
      exact r_zretPk (pc := 71) hX hE dX3_openWaysClash_71 (by decide)
    · skip
      refine r_iconst (pc := 8) hX dX3_openWaysClash_8 ic_0 ?_
      refine r_istore (L' := [(4, .int (0 : Int32)), (0, rX X 3), (1, .int a0), (2, .int a1), (3, .int v1)]) (pc := 9) hX dX3_openWaysClash_9 (by decide) rfl ?_
      refine r_join (P := fun k => J X (oP m) (k) m 64 [(0, rX X 3), (1, .int a0), (2, .int a1), (3, .int v1)] []) ?_ ?_
      · skip
        refine r_iincN (L' := fun w => [(3, .int w), (0, rX X 3), (1, .int a0), (2, .int a1)]) (pc := 64) hX 3 dX3_openWaysClash_64 rfl rfl (by decide) (fun _ => rfl) (fun v2 => ?_)
        refine r_goto (tgt := 2) (pc := 67) hX dX3_openWaysClash_67 (by decide) ?_
        exact r_sub [1, 2, 3, 0] rfl (hs2 v2)
      intro k64_ hk64_
      have hl11 : ∀ n : Nat, ∀ (v3 : Int32), J X (oP m) (fx (lb_Lay_openWaysClash_11 a0 a1 m v1 k64_) (fun _ => none) n v3) m 11 [(0, rX X 3), (1, .int a0), (2, .int a1), (3, .int v1), (4, .int v3)] [] := by
        refine fx_ind (fun (f : Int32 → Option Int32) => ∀ (v3 : Int32), J X (oP m) (f v3) m 11 [(0, rX X 3), (1, .int a0), (2, .int a1), (3, .int v1), (4, .int v3)] []) (fun _ => r_none) ?_
        intro s11 hs11 v3
        unfold lb_Lay_openWaysClash_11
        refine r_iload (pc := 11) hX 4 dX3_openWaysClash_11 rfl ?_
        refine r_bipush (pc := 13) hX dX3_openWaysClash_13 bp_16 ?_
        refine r_icmp_ge (tgt := 64) (pc := 15) hX dX3_openWaysClash_15 (by decide) ?_ ?_
        · skip
          exact r_sub [0, 1, 2, 3] rfl (hk64_)
        · skip
          refine r_aload_n (pc := 18) hX 0 dX3_openWaysClash_18 rfl rfl ?_
          refine r_iload_n (pc := 19) hX 1 dX3_openWaysClash_19 rfl rfl ?_
          refine r_iload_n (pc := 20) hX 3 dX3_openWaysClash_20 rfl rfl ?_
          refine r_cvP (st := []) (pc := 21) hX dX3_openWaysClash_21 MI_Lay_isOpen MV_Lay_isOpen lkX3_48 k3 (c_Lay_isOpen a0 v1 m) rfl rfl (Nat.le_of_ble_eq_true rfl) (by decide) (fun v4 => ?_)
          refine r_if_eq (tgt := 64) (pc := 24) hX dX3_openWaysClash_24 (by decide) ?_ ?_
          · skip
            exact r_sub [0, 1, 2, 3] rfl (hk64_)
          · skip
            refine r_aload_n (pc := 27) hX 0 dX3_openWaysClash_27 rfl rfl ?_
            refine r_iload_n (pc := 28) hX 2 dX3_openWaysClash_28 rfl rfl ?_
            refine r_iload (pc := 29) hX 4 dX3_openWaysClash_29 rfl ?_
            refine r_cvP (st := []) (pc := 31) hX dX3_openWaysClash_31 MI_Lay_isOpen MV_Lay_isOpen lkX3_48 k3 (c_Lay_isOpen a1 v3 m) rfl rfl (Nat.le_of_ble_eq_true rfl) (by decide) (fun v5 => ?_)
            refine r_join (P := fun k => J X (oP m) (k) m 58 [(0, rX X 3), (1, .int a0), (2, .int a1), (3, .int v1), (4, .int v3)] []) ?_ ?_
            · skip
              refine r_iincN (L' := fun w => [(4, .int w), (0, rX X 3), (1, .int a0), (2, .int a1), (3, .int v1)]) (pc := 58) hX 4 dX3_openWaysClash_58 rfl rfl (by decide) (fun _ => rfl) (fun v6 => ?_)
              refine r_goto (tgt := 11) (pc := 61) hX dX3_openWaysClash_61 (by decide) ?_
              exact r_sub [1, 2, 3, 4, 0] rfl (hs11 v6)
            intro k58_ hk58_
            refine r_if_eq (tgt := 58) (pc := 34) hX dX3_openWaysClash_34 (by decide) ?_ ?_
            · skip
              exact hk58_
            · skip
              refine r_aload_n (pc := 37) hX 0 dX3_openWaysClash_37 rfl rfl ?_
              refine r_iload_n (pc := 38) hX 1 dX3_openWaysClash_38 rfl rfl ?_
              refine r_iload_n (pc := 39) hX 3 dX3_openWaysClash_39 rfl rfl ?_
              refine r_cvR (st := []) (pc := 40) hX dX3_openWaysClash_40 MI_Lay_boxOf MV_Lay_boxOf lkX3_36 k3 (c_Lay_boxOf a0 v1 m) rfl rfl (Nat.le_of_ble_eq_true rfl) (by decide) (fun b7 eb7 => ?_)
              have hb7 : kd b7 = 0 := p_Lay_boxOf _ _ _ _ eb7
              refine r_aload_n (pc := 43) hX 0 dX3_openWaysClash_43 rfl rfl ?_
              refine r_iload_n (pc := 44) hX 2 dX3_openWaysClash_44 rfl rfl ?_
              refine r_iload (pc := 45) hX 4 dX3_openWaysClash_45 rfl ?_
              refine r_cvR (st := [rX X b7]) (pc := 47) hX dX3_openWaysClash_47 MI_Lay_boxOf MV_Lay_boxOf lkX3_36 k3 (c_Lay_boxOf a1 v3 m) rfl rfl (Nat.le_of_ble_eq_true rfl) (by decide) (fun b8 eb8 => ?_)
              have hb8 : kd b8 = 0 := p_Lay_boxOf _ _ _ _ eb8
              refine r_cvP (st := []) (pc := 50) hX dX3_openWaysClash_50 MI_Box_hits MV_Box_hits lkX3_51 hb7 (c_Box_hits b7 b8 hb7 hb8 m) rfl rfl (Nat.le_of_ble_eq_true rfl) (by decide) (fun v9 => ?_)
              refine r_if_eq (tgt := 58) (pc := 53) hX dX3_openWaysClash_53 (by decide) ?_ ?_
              · skip
                exact hk58_
              · skip
                refine r_iconst (pc := 56) hX dX3_openWaysClash_56 ic_1 ?_
                exact r_zretPk (pc := 57) hX hE dX3_openWaysClash_57 (by decide)
      exact r_sub [1, 2, 3, 4, 0] rfl (hl11 FU (0 : Int32))
  exact r_sub [1, 2, 3, 0] rfl (hl2 FU (0 : Int32))
def lb_Parts_join_3 (a0 : Int32) (a1 : Int32) (a2 : Int32) (s3 : Int32 → Me → Option Me) (v1 : Int32) (m2 : Me) : Option Me := if a2 < v1 then some m2 else rd (ln 7) v1 (m2.1 7) (fun v3 => bd (fun (m4 : Me) => bd (v1 + 1) (fun v5 => (s3 v5 m4))) (fun k28_ => if v3 = a1 then wi m2 7 (ln 7) v1 a0 (fun m6 => (k28_ m6)) else (k28_ m2)))
def f_Parts_join (a0 : Int32) (a1 : Int32) (a2 : Int32) (m : Me) : Option Me := ((fx (lb_Parts_join_3 a0 a1 a2) (fun _ _ => none) FU) (0 : Int32) m)
set_option maxHeartbeats 4000000 in
set_option maxRecDepth 100000 in
theorem c_Parts_join (a0 : Int32) (a1 : Int32) (a2 : Int32)  (m : Me) (r : Me) (h : f_Parts_join a0 a1 a2 m = some r) : Ct yX4_join cX4_join 5 none 0 (fun ad => [.ref (ad 6), .int a0, .int a1, .int a2]) m (fun ad => (none, r)) := by
  refine mk_ct (F := f_Parts_join a0 a1 a2 m) (fun _ => oV) r h (fun _ => rfl) (by decide) (fun _ => Nat.le_of_ble_eq_true rfl) ?_
  intro X hX hE
  show J X oV (f_Parts_join a0 a1 a2 m) m 0 [(0, rX X 6), (1, .int a0), (2, .int a1), (3, .int a2)] []
  unfold f_Parts_join
  refine r_iconst (pc := 0) hX dX4_join_0 ic_0 ?_
  refine r_istore (L' := [(4, .int (0 : Int32)), (0, rX X 6), (1, .int a0), (2, .int a1), (3, .int a2)]) (pc := 1) hX dX4_join_1 (by decide) rfl ?_
  have hl3 : ∀ n : Nat, ∀ (v1 : Int32) (m2 : Me), J X oV (fx (lb_Parts_join_3 a0 a1 a2) (fun _ _ => none) n v1 m2) m2 3 [(0, rX X 6), (1, .int a0), (2, .int a1), (3, .int a2), (4, .int v1)] [] := by
    refine fx_ind (fun (f : Int32 → Me → Option Me) => ∀ (v1 : Int32) (m2 : Me), J X oV (f v1 m2) m2 3 [(0, rX X 6), (1, .int a0), (2, .int a1), (3, .int a2), (4, .int v1)] []) (fun _ _ => r_none) ?_
    intro s3 hs3 v1 m2
    unfold lb_Parts_join_3
    refine r_iload (pc := 3) hX 4 dX4_join_3 rfl ?_
    refine r_iload_n (pc := 5) hX 3 dX4_join_5 rfl rfl ?_
    refine r_icmp_gt (tgt := 34) (pc := 6) hX dX4_join_6 (by decide) ?_ ?_
    · skip
      exact r_vret (pc := 34) hX hE dX4_join_34
    · skip
      refine r_aload_n (pc := 9) hX 0 dX4_join_9 rfl rfl ?_
      refine r_getR (pc := 10) hX dX4_join_10 fp4_9 k6 rfl g6_0 ?_
      refine r_iload (pc := 13) hX 4 dX4_join_13 rfl ?_
      refine r_iald (pc := 15) hX dX4_join_15 k7 (fun v3 => ?_)
      refine r_iload_n (pc := 16) hX 2 dX4_join_16 rfl rfl ?_
      refine r_join (P := fun k => ∀ (m4 : Me), J X oV (k m4) m4 28 [(0, rX X 6), (1, .int a0), (2, .int a1), (3, .int a2), (4, .int v1)] []) ?_ ?_
      · intro m4
        refine r_iincN (L' := fun w => [(4, .int w), (0, rX X 6), (1, .int a0), (2, .int a1), (3, .int a2)]) (pc := 28) hX 4 dX4_join_28 rfl rfl (by decide) (fun _ => rfl) (fun v5 => ?_)
        refine r_goto (tgt := 3) (pc := 31) hX dX4_join_31 (by decide) ?_
        exact r_sub [1, 2, 3, 4, 0] rfl (hs3 v5 m4)
      intro k28_ hk28_
      refine r_icmp_ne (tgt := 28) (pc := 17) hX dX4_join_17 (by decide) ?_ ?_
      · skip
        exact hk28_ m2
      · skip
        refine r_aload_n (pc := 20) hX 0 dX4_join_20 rfl rfl ?_
        refine r_getR (pc := 21) hX dX4_join_21 fp4_9 k6 rfl g6_0 ?_
        refine r_iload (pc := 24) hX 4 dX4_join_24 rfl ?_
        refine r_iload_n (pc := 26) hX 1 dX4_join_26 rfl rfl ?_
        refine r_iast (pc := 27) hX dX4_join_27 k7 (fun m6 => ?_)
        exact hk28_ m6
  exact r_sub [1, 2, 3, 4, 0] rfl (hl3 FU (0 : Int32) m)
def lb_Parts_joinBack_3 (a2 : Int32) (s3 : Int32 → Me → Option Me) (v1 : Int32) (m2 : Me) : Option Me := if a2 ≤ v1 then some m2 else rd (ln 7) a2 (m2.1 7) (fun v3 => rd (ln 7) v1 (m2.1 7) (fun v4 => bd (fun (m5 : Me) => bd (v1 + 1) (fun v6 => (s3 v6 m5))) (fun k82_ => if v3 = v4 then (k82_ m2) else cP (f_Chart_areNear a2 v1 m2) (fun v7 => if v7 = 0 then (k82_ m2) else cP (f_Lay_openWaysClash a2 v1 m2) (fun v8 => if v8 = 0 then (k82_ m2) else rd (ln 7) a2 (m2.1 7) (fun v9 => rd (ln 7) v1 (m2.1 7) (fun v10 => rd (ln 7) a2 (m2.1 7) (fun v11 => rd (ln 7) v1 (m2.1 7) (fun v12 => cP (f_Parts_join (mn v9 v10) (mx v11 v12) a2 m2) (fun m13 => (k82_ m13)))))))))))
def f_Parts_joinBack (a2 : Int32) (m : Me) : Option Me := ((fx (lb_Parts_joinBack_3 a2) (fun _ _ => none) FU) (0 : Int32) m)
set_option maxHeartbeats 4000000 in
set_option maxRecDepth 100000 in
theorem c_Parts_joinBack (a2 : Int32)  (m : Me) (r : Me) (h : f_Parts_joinBack a2 m = some r) : Ct yX4_joinBack cX4_joinBack 5 none 4 (fun ad => [.ref (ad 6), .ref (ad 10), .ref (ad 3), .int a2]) m (fun ad => (none, r)) := by
  refine mk_ct (F := f_Parts_joinBack a2 m) (fun _ => oV) r h (fun _ => rfl) (by decide) (fun _ => Nat.le_of_ble_eq_true rfl) ?_
  intro X hX hE
  show J X oV (f_Parts_joinBack a2 m) m 0 [(0, rX X 6), (1, rX X 10), (2, rX X 3), (3, .int a2)] []
  unfold f_Parts_joinBack
  refine r_iconst (pc := 0) hX dX4_joinBack_0 ic_0 ?_
  refine r_istore (L' := [(4, .int (0 : Int32)), (0, rX X 6), (1, rX X 10), (2, rX X 3), (3, .int a2)]) (pc := 1) hX dX4_joinBack_1 (by decide) rfl ?_
  have hl3 : ∀ n : Nat, ∀ (v1 : Int32) (m2 : Me), J X oV (fx (lb_Parts_joinBack_3 a2) (fun _ _ => none) n v1 m2) m2 3 [(0, rX X 6), (1, rX X 10), (2, rX X 3), (3, .int a2), (4, .int v1)] [] := by
    refine fx_ind (fun (f : Int32 → Me → Option Me) => ∀ (v1 : Int32) (m2 : Me), J X oV (f v1 m2) m2 3 [(0, rX X 6), (1, rX X 10), (2, rX X 3), (3, .int a2), (4, .int v1)] []) (fun _ _ => r_none) ?_
    intro s3 hs3 v1 m2
    unfold lb_Parts_joinBack_3
    refine r_iload (pc := 3) hX 4 dX4_joinBack_3 rfl ?_
    refine r_iload_n (pc := 5) hX 3 dX4_joinBack_5 rfl rfl ?_
    refine r_icmp_ge (tgt := 88) (pc := 6) hX dX4_joinBack_6 (by decide) ?_ ?_
    · skip
      exact r_vret (pc := 88) hX hE dX4_joinBack_88
    · skip
      refine r_aload_n (pc := 9) hX 0 dX4_joinBack_9 rfl rfl ?_
      refine r_getR (pc := 10) hX dX4_joinBack_10 fp4_9 k6 rfl g6_0 ?_
      refine r_iload_n (pc := 13) hX 3 dX4_joinBack_13 rfl rfl ?_
      refine r_iald (pc := 14) hX dX4_joinBack_14 k7 (fun v3 => ?_)
      refine r_aload_n (pc := 15) hX 0 dX4_joinBack_15 rfl rfl ?_
      refine r_getR (pc := 16) hX dX4_joinBack_16 fp4_9 k6 rfl g6_0 ?_
      refine r_iload (pc := 19) hX 4 dX4_joinBack_19 rfl ?_
      refine r_iald (pc := 21) hX dX4_joinBack_21 k7 (fun v4 => ?_)
      refine r_join (P := fun k => ∀ (m5 : Me), J X oV (k m5) m5 82 [(0, rX X 6), (1, rX X 10), (2, rX X 3), (3, .int a2), (4, .int v1)] []) ?_ ?_
      · intro m5
        refine r_iincN (L' := fun w => [(4, .int w), (0, rX X 6), (1, rX X 10), (2, rX X 3), (3, .int a2)]) (pc := 82) hX 4 dX4_joinBack_82 rfl rfl (by decide) (fun _ => rfl) (fun v6 => ?_)
        refine r_goto (tgt := 3) (pc := 85) hX dX4_joinBack_85 (by decide) ?_
        exact r_sub [1, 2, 3, 4, 0] rfl (hs3 v6 m5)
      intro k82_ hk82_
      refine r_icmp_eq (tgt := 82) (pc := 22) hX dX4_joinBack_22 (by decide) ?_ ?_
      · skip
        exact hk82_ m2
      · skip
        refine r_aload_n (pc := 25) hX 1 dX4_joinBack_25 rfl rfl ?_
        refine r_iload_n (pc := 26) hX 3 dX4_joinBack_26 rfl rfl ?_
        refine r_iload (pc := 27) hX 4 dX4_joinBack_27 rfl ?_
        refine r_cvP (st := []) (pc := 29) hX dX4_joinBack_29 MI_Chart_areNear MV_Chart_areNear lkX4_36 k10 (c_Chart_areNear a2 v1 m2) rfl rfl (Nat.le_of_ble_eq_true rfl) (by decide) (fun v7 => ?_)
        refine r_if_eq (tgt := 82) (pc := 32) hX dX4_joinBack_32 (by decide) ?_ ?_
        · skip
          exact hk82_ m2
        · skip
          refine r_aload_n (pc := 35) hX 2 dX4_joinBack_35 rfl rfl ?_
          refine r_iload_n (pc := 36) hX 3 dX4_joinBack_36 rfl rfl ?_
          refine r_iload (pc := 37) hX 4 dX4_joinBack_37 rfl ?_
          refine r_cvP (st := []) (pc := 39) hX dX4_joinBack_39 MI_Lay_openWaysClash MV_Lay_openWaysClash lkX4_40 k3 (c_Lay_openWaysClash a2 v1 m2) rfl rfl (Nat.le_of_ble_eq_true rfl) (by decide) (fun v8 => ?_)
          refine r_if_eq (tgt := 82) (pc := 42) hX dX4_joinBack_42 (by decide) ?_ ?_
          · skip
            exact hk82_ m2
          · skip
            refine r_aload_n (pc := 45) hX 0 dX4_joinBack_45 rfl rfl ?_
            refine r_aload_n (pc := 46) hX 0 dX4_joinBack_46 rfl rfl ?_
            refine r_getR (pc := 47) hX dX4_joinBack_47 fp4_9 k6 rfl g6_0 ?_
            refine r_iload_n (pc := 50) hX 3 dX4_joinBack_50 rfl rfl ?_
            refine r_iald (pc := 51) hX dX4_joinBack_51 k7 (fun v9 => ?_)
            refine r_aload_n (pc := 52) hX 0 dX4_joinBack_52 rfl rfl ?_
            refine r_getR (pc := 53) hX dX4_joinBack_53 fp4_9 k6 rfl g6_0 ?_
            refine r_iload (pc := 56) hX 4 dX4_joinBack_56 rfl ?_
            refine r_iald (pc := 58) hX dX4_joinBack_58 k7 (fun v10 => ?_)
            refine r_mmin (st := [rX X 6]) (pc := 59) hX dX4_joinBack_59 lkM4_45 (Nat.le_of_ble_eq_true rfl) (by omega) ?_
            refine r_aload_n (pc := 62) hX 0 dX4_joinBack_62 rfl rfl ?_
            refine r_getR (pc := 63) hX dX4_joinBack_63 fp4_9 k6 rfl g6_0 ?_
            refine r_iload_n (pc := 66) hX 3 dX4_joinBack_66 rfl rfl ?_
            refine r_iald (pc := 67) hX dX4_joinBack_67 k7 (fun v11 => ?_)
            refine r_aload_n (pc := 68) hX 0 dX4_joinBack_68 rfl rfl ?_
            refine r_getR (pc := 69) hX dX4_joinBack_69 fp4_9 k6 rfl g6_0 ?_
            refine r_iload (pc := 72) hX 4 dX4_joinBack_72 rfl ?_
            refine r_iald (pc := 74) hX dX4_joinBack_74 k7 (fun v12 => ?_)
            refine r_mmax (st := [.int (mn v9 v10), rX X 6]) (pc := 75) hX dX4_joinBack_75 lkM4_51 (Nat.le_of_ble_eq_true rfl) (by omega) ?_
            refine r_iload_n (pc := 78) hX 3 dX4_joinBack_78 rfl rfl ?_
            refine r_cvV (st := []) (pc := 79) hX dX4_joinBack_79 MI_Parts_join MV_Parts_join lkX4_54 k6 (c_Parts_join (mn v9 v10) (mx v11 v12) a2 m2) rfl rfl (Nat.le_of_ble_eq_true rfl) (by decide) (fun m13 => ?_)
            exact hk82_ m13
  exact r_sub [1, 2, 3, 4, 0] rfl (hl3 FU (0 : Int32) m)
def lb_Parts_giveNumbers_12 (a0 : Int32) (s12 : Int32 → Me → Option Me) (v3 : Int32) (m4 : Me) : Option Me := if a0 ≤ v3 then some m4 else rd (ln 7) v3 (m4.1 7) (fun v5 => bd (fun (m6 : Me) => rd (ln 7) v3 (m6.1 7) (fun v7 => rd (ln 8) v7 (m6.1 8) (fun v8 => wi m6 8 (ln 8) v7 (v8 + (1 : Int32)) (fun m9 => rd (ln 7) v3 (m9.1 7) (fun v10 => rd (ln 8) v10 (m9.1 8) (fun v11 => bd (si m9 6 3 (mx (m9.1 6 3) v11)) (fun m12 => bd (v3 + 1) (fun v13 => (s12 v13 m12))))))))) (fun k77_ => if v5 = v3 then wi m4 8 (ln 8) (m4.1 6 2) (0 : Int32) (fun m17 => wi m17 7 (ln 7) v3 (m17.1 6 2) (fun m18 => bd (si m18 6 2 (((m18.1 6 2)) + (1 : Int32))) (fun m19 => (k77_ m19)))) else rd (ln 7) v3 (m4.1 7) (fun v14 => rd (ln 7) v14 (m4.1 7) (fun v15 => wi m4 7 (ln 7) v3 v15 (fun m16 => (k77_ m16))))))
def f_Parts_giveNumbers (a0 : Int32) (m : Me) : Option Me := bd (si m 6 2 (0 : Int32)) (fun m1 => bd (si m1 6 3 (0 : Int32)) (fun m2 => ((fx (lb_Parts_giveNumbers_12 a0) (fun _ _ => none) FU) (0 : Int32) m2)))
set_option maxHeartbeats 4000000 in
set_option maxRecDepth 100000 in
theorem c_Parts_giveNumbers (a0 : Int32)  (m : Me) (r : Me) (h : f_Parts_giveNumbers a0 m = some r) : Ct yX4_giveNumbers cX4_giveNumbers 3 none 1 (fun ad => [.ref (ad 6), .int a0]) m (fun ad => (none, r)) := by
  refine mk_ct (F := f_Parts_giveNumbers a0 m) (fun _ => oV) r h (fun _ => rfl) (by decide) (fun _ => Nat.le_of_ble_eq_true rfl) ?_
  intro X hX hE
  show J X oV (f_Parts_giveNumbers a0 m) m 0 [(0, rX X 6), (1, .int a0)] []
  unfold f_Parts_giveNumbers
  refine r_aload_n (pc := 0) hX 0 dX4_giveNumbers_0 rfl rfl ?_
  refine r_iconst (pc := 1) hX dX4_giveNumbers_1 ic_0 ?_
  refine r_putI (pc := 2) hX dX4_giveNumbers_2 fp4_58 k6 (fun m1 => ?_)
  refine r_aload_n (pc := 5) hX 0 dX4_giveNumbers_5 rfl rfl ?_
  refine r_iconst (pc := 6) hX dX4_giveNumbers_6 ic_0 ?_
  refine r_putI (pc := 7) hX dX4_giveNumbers_7 fp4_61 k6 (fun m2 => ?_)
  refine r_iconst (pc := 10) hX dX4_giveNumbers_10 ic_0 ?_
  refine r_istore_n (L' := [(2, .int (0 : Int32)), (0, rX X 6), (1, .int a0)]) (pc := 11) hX dX4_giveNumbers_11 rfl (by decide) rfl ?_
  have hl12 : ∀ n : Nat, ∀ (v3 : Int32) (m4 : Me), J X oV (fx (lb_Parts_giveNumbers_12 a0) (fun _ _ => none) n v3 m4) m4 12 [(0, rX X 6), (1, .int a0), (2, .int v3)] [] := by
    refine fx_ind (fun (f : Int32 → Me → Option Me) => ∀ (v3 : Int32) (m4 : Me), J X oV (f v3 m4) m4 12 [(0, rX X 6), (1, .int a0), (2, .int v3)] []) (fun _ _ => r_none) ?_
    intro s12 hs12 v3 m4
    unfold lb_Parts_giveNumbers_12
    refine r_iload_n (pc := 12) hX 2 dX4_giveNumbers_12 rfl rfl ?_
    refine r_iload_n (pc := 13) hX 1 dX4_giveNumbers_13 rfl rfl ?_
    refine r_icmp_ge (tgt := 120) (pc := 14) hX dX4_giveNumbers_14 (by decide) ?_ ?_
    · skip
      exact r_vret (pc := 120) hX hE dX4_giveNumbers_120
    · skip
      refine r_aload_n (pc := 17) hX 0 dX4_giveNumbers_17 rfl rfl ?_
      refine r_getR (pc := 18) hX dX4_giveNumbers_18 fp4_9 k6 rfl g6_0 ?_
      refine r_iload_n (pc := 21) hX 2 dX4_giveNumbers_21 rfl rfl ?_
      refine r_iald (pc := 22) hX dX4_giveNumbers_22 k7 (fun v5 => ?_)
      refine r_iload_n (pc := 23) hX 2 dX4_giveNumbers_23 rfl rfl ?_
      refine r_join (P := fun k => ∀ (m6 : Me), J X oV (k m6) m6 77 [(0, rX X 6), (1, .int a0), (2, .int v3)] []) ?_ ?_
      · intro m6
        refine r_aload_n (pc := 77) hX 0 dX4_giveNumbers_77 rfl rfl ?_
        refine r_getR (pc := 78) hX dX4_giveNumbers_78 fp4_15 k6 rfl g6_1 ?_
        refine r_aload_n (pc := 81) hX 0 dX4_giveNumbers_81 rfl rfl ?_
        refine r_getR (pc := 82) hX dX4_giveNumbers_82 fp4_9 k6 rfl g6_0 ?_
        refine r_iload_n (pc := 85) hX 2 dX4_giveNumbers_85 rfl rfl ?_
        refine r_iald (pc := 86) hX dX4_giveNumbers_86 k7 (fun v7 => ?_)
        refine r_dup2 (pc := 87) hX dX4_giveNumbers_87 rfl rfl ?_
        refine r_iald (pc := 88) hX dX4_giveNumbers_88 k8 (fun v8 => ?_)
        refine r_iconst (pc := 89) hX dX4_giveNumbers_89 ic_1 ?_
        refine r_iadd (pc := 90) hX dX4_giveNumbers_90 ?_
        refine r_iast (pc := 91) hX dX4_giveNumbers_91 k8 (fun m9 => ?_)
        refine r_aload_n (pc := 92) hX 0 dX4_giveNumbers_92 rfl rfl ?_
        refine r_aload_n (pc := 93) hX 0 dX4_giveNumbers_93 rfl rfl ?_
        refine r_getI (pc := 94) hX dX4_giveNumbers_94 fp4_61 k6 (by decide) ?_
        refine r_aload_n (pc := 97) hX 0 dX4_giveNumbers_97 rfl rfl ?_
        refine r_getR (pc := 98) hX dX4_giveNumbers_98 fp4_15 k6 rfl g6_1 ?_
        refine r_aload_n (pc := 101) hX 0 dX4_giveNumbers_101 rfl rfl ?_
        refine r_getR (pc := 102) hX dX4_giveNumbers_102 fp4_9 k6 rfl g6_0 ?_
        refine r_iload_n (pc := 105) hX 2 dX4_giveNumbers_105 rfl rfl ?_
        refine r_iald (pc := 106) hX dX4_giveNumbers_106 k7 (fun v10 => ?_)
        refine r_iald (pc := 107) hX dX4_giveNumbers_107 k8 (fun v11 => ?_)
        refine r_mmax (st := [rX X 6]) (pc := 108) hX dX4_giveNumbers_108 lkM4_51 (Nat.le_of_ble_eq_true rfl) (by omega) ?_
        refine r_putI (pc := 111) hX dX4_giveNumbers_111 fp4_61 k6 (fun m12 => ?_)
        refine r_iincN (L' := fun w => [(2, .int w), (0, rX X 6), (1, .int a0)]) (pc := 114) hX 2 dX4_giveNumbers_114 rfl rfl (by decide) (fun _ => rfl) (fun v13 => ?_)
        refine r_goto (tgt := 12) (pc := 117) hX dX4_giveNumbers_117 (by decide) ?_
        exact r_sub [1, 2, 0] rfl (hs12 v13 m12)
      intro k77_ hk77_
      refine r_icmp_ne (tgt := 60) (pc := 24) hX dX4_giveNumbers_24 (by decide) ?_ ?_
      · skip
        refine r_aload_n (pc := 60) hX 0 dX4_giveNumbers_60 rfl rfl ?_
        refine r_getR (pc := 61) hX dX4_giveNumbers_61 fp4_9 k6 rfl g6_0 ?_
        refine r_iload_n (pc := 64) hX 2 dX4_giveNumbers_64 rfl rfl ?_
        refine r_aload_n (pc := 65) hX 0 dX4_giveNumbers_65 rfl rfl ?_
        refine r_getR (pc := 66) hX dX4_giveNumbers_66 fp4_9 k6 rfl g6_0 ?_
        refine r_aload_n (pc := 69) hX 0 dX4_giveNumbers_69 rfl rfl ?_
        refine r_getR (pc := 70) hX dX4_giveNumbers_70 fp4_9 k6 rfl g6_0 ?_
        refine r_iload_n (pc := 73) hX 2 dX4_giveNumbers_73 rfl rfl ?_
        refine r_iald (pc := 74) hX dX4_giveNumbers_74 k7 (fun v14 => ?_)
        refine r_iald (pc := 75) hX dX4_giveNumbers_75 k7 (fun v15 => ?_)
        refine r_iast (pc := 76) hX dX4_giveNumbers_76 k7 (fun m16 => ?_)
        exact hk77_ m16
      · skip
        refine r_aload_n (pc := 27) hX 0 dX4_giveNumbers_27 rfl rfl ?_
        refine r_getR (pc := 28) hX dX4_giveNumbers_28 fp4_15 k6 rfl g6_1 ?_
        refine r_aload_n (pc := 31) hX 0 dX4_giveNumbers_31 rfl rfl ?_
        refine r_getI (pc := 32) hX dX4_giveNumbers_32 fp4_58 k6 (by decide) ?_
        refine r_iconst (pc := 35) hX dX4_giveNumbers_35 ic_0 ?_
        refine r_iast (pc := 36) hX dX4_giveNumbers_36 k8 (fun m17 => ?_)
        refine r_aload_n (pc := 37) hX 0 dX4_giveNumbers_37 rfl rfl ?_
        refine r_getR (pc := 38) hX dX4_giveNumbers_38 fp4_9 k6 rfl g6_0 ?_
        refine r_iload_n (pc := 41) hX 2 dX4_giveNumbers_41 rfl rfl ?_
        refine r_aload_n (pc := 42) hX 0 dX4_giveNumbers_42 rfl rfl ?_
        refine r_getI (pc := 43) hX dX4_giveNumbers_43 fp4_58 k6 (by decide) ?_
        refine r_iast (pc := 46) hX dX4_giveNumbers_46 k7 (fun m18 => ?_)
        refine r_aload_n (pc := 47) hX 0 dX4_giveNumbers_47 rfl rfl ?_
        refine r_dup (pc := 48) hX dX4_giveNumbers_48 rfl ?_
        refine r_getI (pc := 49) hX dX4_giveNumbers_49 fp4_58 k6 (by decide) ?_
        refine r_iconst (pc := 52) hX dX4_giveNumbers_52 ic_1 ?_
        refine r_iadd (pc := 53) hX dX4_giveNumbers_53 ?_
        refine r_putI (pc := 54) hX dX4_giveNumbers_54 fp4_58 k6 (fun m19 => ?_)
        refine r_goto (tgt := 77) (pc := 57) hX dX4_giveNumbers_57 (by decide) ?_
        exact hk77_ m19
  exact r_sub [1, 2, 0] rfl (hl12 FU (0 : Int32) m2)
def lb_Parts_refresh_15 (k43_ : Me → Option Me) (s15 : Int32 → Me → Option Me) (v4 : Int32) (m5 : Me) : Option Me := if (m5.1 10 0) ≤ v4 then (k43_ m5) else wi m5 7 (ln 7) v4 v4 (fun m6 => cP (f_Parts_joinBack v4 m6) (fun m7 => bd (v4 + 1) (fun v8 => (s15 v8 m7))))
def f_Parts_refresh  (m : Me) : Option Me := if (m.1 6 4) = 0 then pz m 6 4 (1 : Int32) (fun m1 => bd (fun (m2 : Me) => cP (f_Parts_giveNumbers (m2.1 10 0) m2) (fun m3 => some m3)) (fun k43_ => ((fx (lb_Parts_refresh_15 k43_) (fun _ _ => none) FU) (0 : Int32) m1))) else some m
set_option maxHeartbeats 4000000 in
set_option maxRecDepth 100000 in
theorem c_Parts_refresh   (m : Me) (r : Me) (h : f_Parts_refresh  m = some r) : Ct yX4_refresh cX4_refresh 4 none 5 (fun ad => [.ref (ad 6), .ref (ad 10), .ref (ad 3)]) m (fun ad => (none, r)) := by
  refine mk_ct (F := f_Parts_refresh  m) (fun _ => oV) r h (fun _ => rfl) (by decide) (fun _ => Nat.le_of_ble_eq_true rfl) ?_
  intro X hX hE
  show J X oV (f_Parts_refresh  m) m 0 [(0, rX X 6), (1, rX X 10), (2, rX X 3)] []
  unfold f_Parts_refresh
  refine r_aload_n (pc := 0) hX 0 dX4_refresh_0 rfl rfl ?_
  refine r_getI (pc := 1) hX dX4_refresh_1 fp4_18 k6 (by decide) ?_
  refine r_if_eq (tgt := 8) (pc := 4) hX dX4_refresh_4 (by decide) ?_ ?_
  · skip
    refine r_aload_n (pc := 8) hX 0 dX4_refresh_8 rfl rfl ?_
    refine r_iconst (pc := 9) hX dX4_refresh_9 ic_1 ?_
    refine r_putZ (pc := 10) hX dX4_refresh_10 fp4_18 k6 (fun m1 => ?_)
    refine r_iconst (pc := 13) hX dX4_refresh_13 ic_0 ?_
    refine r_istore_n (L' := [(3, .int (0 : Int32)), (0, rX X 6), (1, rX X 10), (2, rX X 3)]) (pc := 14) hX dX4_refresh_14 rfl (by decide) rfl ?_
    refine r_join (P := fun k => ∀ (m2 : Me), J X oV (k m2) m2 43 [(0, rX X 6), (1, rX X 10)] []) ?_ ?_
    · intro m2
      refine r_aload_n (pc := 43) hX 0 dX4_refresh_43 rfl rfl ?_
      refine r_aload_n (pc := 44) hX 1 dX4_refresh_44 rfl rfl ?_
      refine r_getI (pc := 45) hX dX4_refresh_45 fp4_22 k10 (by decide) ?_
      refine r_cvV (st := []) (pc := 48) hX dX4_refresh_48 MI_Parts_giveNumbers MV_Parts_giveNumbers lkX4_32 k6 (c_Parts_giveNumbers (m2.1 10 0) m2) rfl rfl (Nat.le_of_ble_eq_true rfl) (by decide) (fun m3 => ?_)
      exact r_vret (pc := 51) hX hE dX4_refresh_51
    intro k43_ hk43_
    have hl15 : ∀ n : Nat, ∀ (v4 : Int32) (m5 : Me), J X oV (fx (lb_Parts_refresh_15 k43_) (fun _ _ => none) n v4 m5) m5 15 [(0, rX X 6), (1, rX X 10), (2, rX X 3), (3, .int v4)] [] := by
      refine fx_ind (fun (f : Int32 → Me → Option Me) => ∀ (v4 : Int32) (m5 : Me), J X oV (f v4 m5) m5 15 [(0, rX X 6), (1, rX X 10), (2, rX X 3), (3, .int v4)] []) (fun _ _ => r_none) ?_
      intro s15 hs15 v4 m5
      unfold lb_Parts_refresh_15
      refine r_iload_n (pc := 15) hX 3 dX4_refresh_15 rfl rfl ?_
      refine r_aload_n (pc := 16) hX 1 dX4_refresh_16 rfl rfl ?_
      refine r_getI (pc := 17) hX dX4_refresh_17 fp4_22 k10 (by decide) ?_
      refine r_icmp_ge (tgt := 43) (pc := 20) hX dX4_refresh_20 (by decide) ?_ ?_
      · skip
        exact r_sub [0, 1] rfl (hk43_ m5)
      · skip
        refine r_aload_n (pc := 23) hX 0 dX4_refresh_23 rfl rfl ?_
        refine r_getR (pc := 24) hX dX4_refresh_24 fp4_9 k6 rfl g6_0 ?_
        refine r_iload_n (pc := 27) hX 3 dX4_refresh_27 rfl rfl ?_
        refine r_iload_n (pc := 28) hX 3 dX4_refresh_28 rfl rfl ?_
        refine r_iast (pc := 29) hX dX4_refresh_29 k7 (fun m6 => ?_)
        refine r_aload_n (pc := 30) hX 0 dX4_refresh_30 rfl rfl ?_
        refine r_aload_n (pc := 31) hX 1 dX4_refresh_31 rfl rfl ?_
        refine r_aload_n (pc := 32) hX 2 dX4_refresh_32 rfl rfl ?_
        refine r_iload_n (pc := 33) hX 3 dX4_refresh_33 rfl rfl ?_
        refine r_cvV (st := []) (pc := 34) hX dX4_refresh_34 MI_Parts_joinBack MV_Parts_joinBack lkX4_28 k6 (c_Parts_joinBack v4 m6) rfl rfl (Nat.le_of_ble_eq_true rfl) (by decide) (fun m7 => ?_)
        refine r_iincN (L' := fun w => [(3, .int w), (0, rX X 6), (1, rX X 10), (2, rX X 3)]) (pc := 37) hX 3 dX4_refresh_37 rfl rfl (by decide) (fun _ => rfl) (fun v8 => ?_)
        refine r_goto (tgt := 15) (pc := 40) hX dX4_refresh_40 (by decide) ?_
        exact r_sub [1, 2, 3, 0] rfl (hs15 v8 m7)
    exact r_sub [1, 2, 3, 0] rfl (hl15 FU (0 : Int32) m1)
  · skip
    exact r_vret (pc := 7) hX hE dX4_refresh_7
