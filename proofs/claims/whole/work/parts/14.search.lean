def lb_Search_byRank_5 (a1 : Int32) (a2 : Int32) (m : Me) (s5 : Int32 → Int32 → Option Int32) (v1 : Int32) (v2 : Int32) : Option Int32 := if (16 : Int32) ≤ v2 then some v1 else cP (f_Chart_rankOf a1 v2 m) (fun v3 => bd ((v1 ||| ((((((a2 >>> (v2 &&& 31))) &&& (1 : Int32))) <<< (v3 &&& 31))))) (fun v4 => bd (v2 + 1) (fun v5 => (s5 v4 v5))))
def f_Search_byRank (a1 : Int32) (a2 : Int32) (m : Me) : Option Int32 := ((fx (lb_Search_byRank_5 a1 a2 m) (fun _ _ => none) FU) (0 : Int32) (0 : Int32))
set_option maxHeartbeats 4000000 in
set_option maxRecDepth 100000 in
theorem c_Search_byRank (a1 : Int32) (a2 : Int32)  (m : Me) (r : Int32) (h : f_Search_byRank a1 a2 m = some r) : Ct yX6_byRank cX6_byRank 5 (some .int) 1 (fun ad => [.ref (ad 10), .int a1, .int a2]) m (fun ad => (some (.int r), m)) := by
  refine mk_ct (F := f_Search_byRank a1 a2 m) (fun _ => oP m) r h (fun _ => rfl) (by decide) (fun _ => Nat.le_of_ble_eq_true rfl) ?_
  intro X hX hE
  show J X (oP m) (f_Search_byRank a1 a2 m) m 0 [(0, rX X 10), (1, .int a1), (2, .int a2)] []
  unfold f_Search_byRank
  refine r_iconst (pc := 0) hX dX6_byRank_0 ic_0 ?_
  refine r_istore_n (L' := [(3, .int (0 : Int32)), (0, rX X 10), (1, .int a1), (2, .int a2)]) (pc := 1) hX dX6_byRank_1 rfl (by decide) rfl ?_
  refine r_iconst (pc := 2) hX dX6_byRank_2 ic_0 ?_
  refine r_istore (L' := [(4, .int (0 : Int32)), (3, .int (0 : Int32)), (0, rX X 10), (1, .int a1), (2, .int a2)]) (pc := 3) hX dX6_byRank_3 (by decide) rfl ?_
  have hl5 : ∀ n : Nat, ∀ (v1 : Int32) (v2 : Int32), J X (oP m) (fx (lb_Search_byRank_5 a1 a2 m) (fun _ _ => none) n v1 v2) m 5 [(0, rX X 10), (1, .int a1), (2, .int a2), (3, .int v1), (4, .int v2)] [] := by
    refine fx_ind (fun (f : Int32 → Int32 → Option Int32) => ∀ (v1 : Int32) (v2 : Int32), J X (oP m) (f v1 v2) m 5 [(0, rX X 10), (1, .int a1), (2, .int a2), (3, .int v1), (4, .int v2)] []) (fun _ _ => r_none) ?_
    intro s5 hs5 v1 v2
    unfold lb_Search_byRank_5
    refine r_iload (pc := 5) hX 4 dX6_byRank_5 rfl ?_
    refine r_bipush (pc := 7) hX dX6_byRank_7 bp_16 ?_
    refine r_icmp_ge (tgt := 35) (pc := 9) hX dX6_byRank_9 (by decide) ?_ ?_
    · skip
      refine r_iload_n (pc := 35) hX 3 dX6_byRank_35 rfl rfl ?_
      exact r_iretP (pc := 36) hX hE dX6_byRank_36
    · skip
      refine r_iload_n (pc := 12) hX 3 dX6_byRank_12 rfl rfl ?_
      refine r_iload_n (pc := 13) hX 2 dX6_byRank_13 rfl rfl ?_
      refine r_iload (pc := 14) hX 4 dX6_byRank_14 rfl ?_
      refine r_ishr (pc := 16) hX dX6_byRank_16 ?_
      refine r_iconst (pc := 17) hX dX6_byRank_17 ic_1 ?_
      refine r_iand (pc := 18) hX dX6_byRank_18 ?_
      refine r_aload_n (pc := 19) hX 0 dX6_byRank_19 rfl rfl ?_
      refine r_iload_n (pc := 20) hX 1 dX6_byRank_20 rfl rfl ?_
      refine r_iload (pc := 21) hX 4 dX6_byRank_21 rfl ?_
      refine r_cvP (st := [.int (((a2 >>> (v2 &&& 31))) &&& (1 : Int32)), .int v1]) (pc := 23) hX dX6_byRank_23 MI_Chart_rankOf MV_Chart_rankOf lkX6_76 k10 (c_Chart_rankOf a1 v2 m) rfl rfl (Nat.le_of_ble_eq_true rfl) (by decide) (fun v3 => ?_)
      refine r_ishl (pc := 26) hX dX6_byRank_26 ?_
      refine r_ior (pc := 27) hX dX6_byRank_27 ?_
      refine r_nmI (fun v4 => ?_)
      refine r_istore_n (L' := [(3, .int v4), (0, rX X 10), (1, .int a1), (2, .int a2), (4, .int v2)]) (pc := 28) hX dX6_byRank_28 rfl (by decide) rfl ?_
      refine r_iincN (L' := fun w => [(4, .int w), (3, .int v4), (0, rX X 10), (1, .int a1), (2, .int a2)]) (pc := 29) hX 4 dX6_byRank_29 rfl rfl (by decide) (fun _ => rfl) (fun v5 => ?_)
      refine r_goto (tgt := 5) (pc := 32) hX dX6_byRank_32 (by decide) ?_
      exact r_sub [2, 3, 4, 1, 0] rfl (hs5 v4 v5)
  exact r_sub [2, 3, 4, 1, 0] rfl (hl5 FU (0 : Int32) (0 : Int32))
def f_Search_inFront (a0 : Int32) (a1 : Int32) (m : Me) : Option Int64 := if (4 : Int32) ≤ a0 then some (0 : Int64) else some (lsh (Int32.toInt64 a1) ((16 : Int32) * a0))
set_option maxHeartbeats 4000000 in
set_option maxRecDepth 100000 in
theorem c_Search_inFront (a0 : Int32) (a1 : Int32)  (m : Me) (r : Int64) (h : f_Search_inFront a0 a1 m = some r) : Ct yX6_inFront cX6_inFront 2 (some .long) 0 (fun ad => [.int a0, .int a1]) m (fun ad => (some (.long r), m)) := by
  refine mk_ct (F := f_Search_inFront a0 a1 m) (fun _ => oL m) r h (fun _ => rfl) (by decide) (fun _ => Nat.le_of_ble_eq_true rfl) ?_
  intro X hX hE
  show J X (oL m) (f_Search_inFront a0 a1 m) m 0 [(0, .int a0), (1, .int a1)] []
  unfold f_Search_inFront
  refine r_iload_n (pc := 0) hX 0 dX6_inFront_0 rfl rfl ?_
  refine r_iconst (pc := 1) hX dX6_inFront_1 ic_4 ?_
  refine r_icmp_ge (tgt := 15) (pc := 2) hX dX6_inFront_2 (by decide) ?_ ?_
  · skip
    refine r_lconst (v := (0 : Int64)) (pc := 15) hX dX6_inFront_15 (by decide) ?_
    exact r_lretP (pc := 16) hX hE dX6_inFront_16
  · skip
    refine r_iload_n (pc := 5) hX 1 dX6_inFront_5 rfl rfl ?_
    refine r_i2l (pc := 6) hX dX6_inFront_6 ?_
    refine r_bipush (pc := 7) hX dX6_inFront_7 bp_16 ?_
    refine r_iload_n (pc := 9) hX 0 dX6_inFront_9 rfl rfl ?_
    refine r_imul (pc := 10) hX dX6_inFront_10 ?_
    refine r_lshl (pc := 11) hX dX6_inFront_11 ?_
    refine r_goto (tgt := 16) (pc := 12) hX dX6_inFront_12 (by decide) ?_
    exact r_lretP (pc := 16) hX hE dX6_inFront_16
def f_Search_inBack (a0 : Int32) (a1 : Int32) (m : Me) : Option Int64 := if (4 : Int32) ≤ a0 then some (lsh (Int32.toInt64 a1) ((16 : Int32) * ((a0 - (4 : Int32))))) else some (0 : Int64)
set_option maxHeartbeats 4000000 in
set_option maxRecDepth 100000 in
theorem c_Search_inBack (a0 : Int32) (a1 : Int32)  (m : Me) (r : Int64) (h : f_Search_inBack a0 a1 m = some r) : Ct yX6_inBack cX6_inBack 2 (some .long) 0 (fun ad => [.int a0, .int a1]) m (fun ad => (some (.long r), m)) := by
  refine mk_ct (F := f_Search_inBack a0 a1 m) (fun _ => oL m) r h (fun _ => rfl) (by decide) (fun _ => Nat.le_of_ble_eq_true rfl) ?_
  intro X hX hE
  show J X (oL m) (f_Search_inBack a0 a1 m) m 0 [(0, .int a0), (1, .int a1)] []
  unfold f_Search_inBack
  refine r_iload_n (pc := 0) hX 0 dX6_inBack_0 rfl rfl ?_
  refine r_iconst (pc := 1) hX dX6_inBack_1 ic_4 ?_
  refine r_icmp_ge (tgt := 9) (pc := 2) hX dX6_inBack_2 (by decide) ?_ ?_
  · skip
    refine r_iload_n (pc := 9) hX 1 dX6_inBack_9 rfl rfl ?_
    refine r_i2l (pc := 10) hX dX6_inBack_10 ?_
    refine r_bipush (pc := 11) hX dX6_inBack_11 bp_16 ?_
    refine r_iload_n (pc := 13) hX 0 dX6_inBack_13 rfl rfl ?_
    refine r_iconst (pc := 14) hX dX6_inBack_14 ic_4 ?_
    refine r_isub (pc := 15) hX dX6_inBack_15 ?_
    refine r_imul (pc := 16) hX dX6_inBack_16 ?_
    refine r_lshl (pc := 17) hX dX6_inBack_17 ?_
    exact r_lretP (pc := 18) hX hE dX6_inBack_18
  · skip
    refine r_lconst (v := (0 : Int64)) (pc := 5) hX dX6_inBack_5 (by decide) ?_
    refine r_goto (tgt := 18) (pc := 6) hX dX6_inBack_6 (by decide) ?_
    exact r_lretP (pc := 18) hX hE dX6_inBack_18
def lb_Search_gatherBans_3 (a2 : Int32) (a3 : Int32) (a4 : Int32) (s3 : Int32 → Me → Option Me) (v1 : Int32) (m2 : Me) : Option Me := if (m2.1 9 5) ≤ v1 then some m2 else bd (fun (m3 : Me) => bd (v1 + 1) (fun v4 => (s3 v4 m3))) (fun k104_ => if v1 = a2 then (k104_ m2) else rd (ln 100) a2 (m2.1 100) (fun v5 => rd (ln 100) v1 (m2.1 100) (fun v6 => cP (f_Chart_areNear v5 v6 m2) (fun v7 => if v7 = 0 then (k104_ m2) else rd (ln 100) v1 (m2.1 100) (fun v8 => rd (ln 100) a2 (m2.1 100) (fun v9 => rd (ln 100) v1 (m2.1 100) (fun v10 => cP (f_Lay_openHits v9 a3 v10 m2) (fun v11 => cP (f_Search_byRank v8 v11 m2) (fun v12 => rd (ln 103) a4 (m2.2 103) (fun v13 => cP (f_Search_inFront v1 v12 m2) (fun v14 => wl m2 103 (ln 103) a4 (v13 ||| v14) (fun m15 => rd (ln 104) a4 (m15.2 104) (fun v16 => cP (f_Search_inBack v1 v12 m15) (fun v17 => wl m15 104 (ln 104) a4 (v16 ||| v17) (fun m18 => (k104_ m18))))))))))))))))
def f_Search_gatherBans (a2 : Int32) (a3 : Int32) (a4 : Int32) (m : Me) : Option Me := ((fx (lb_Search_gatherBans_3 a2 a3 a4) (fun _ _ => none) FU) (0 : Int32) m)
set_option maxHeartbeats 4000000 in
set_option maxRecDepth 100000 in
theorem c_Search_gatherBans (a2 : Int32) (a3 : Int32) (a4 : Int32)  (m : Me) (r : Me) (h : f_Search_gatherBans a2 a3 a4 m = some r) : Ct yX6_gatherBans cX6_gatherBans 8 none 4 (fun ad => [.ref (ad 9), .ref (ad 10), .ref (ad 3), .int a2, .int a3, .int a4]) m (fun ad => (none, r)) := by
  refine mk_ct (F := f_Search_gatherBans a2 a3 a4 m) (fun _ => oV) r h (fun _ => rfl) (by decide) (fun _ => Nat.le_of_ble_eq_true rfl) ?_
  intro X hX hE
  show J X oV (f_Search_gatherBans a2 a3 a4 m) m 0 [(0, rX X 9), (1, rX X 10), (2, rX X 3), (3, .int a2), (4, .int a3), (5, .int a4)] []
  unfold f_Search_gatherBans
  refine r_iconst (pc := 0) hX dX6_gatherBans_0 ic_0 ?_
  refine r_istore (L' := [(6, .int (0 : Int32)), (0, rX X 9), (1, rX X 10), (2, rX X 3), (3, .int a2), (4, .int a3), (5, .int a4)]) (pc := 1) hX dX6_gatherBans_1 (by decide) rfl ?_
  have hl3 : ∀ n : Nat, ∀ (v1 : Int32) (m2 : Me), J X oV (fx (lb_Search_gatherBans_3 a2 a3 a4) (fun _ _ => none) n v1 m2) m2 3 [(0, rX X 9), (1, rX X 10), (2, rX X 3), (3, .int a2), (4, .int a3), (5, .int a4), (6, .int v1)] [] := by
    refine fx_ind (fun (f : Int32 → Me → Option Me) => ∀ (v1 : Int32) (m2 : Me), J X oV (f v1 m2) m2 3 [(0, rX X 9), (1, rX X 10), (2, rX X 3), (3, .int a2), (4, .int a3), (5, .int a4), (6, .int v1)] []) (fun _ _ => r_none) ?_
    intro s3 hs3 v1 m2
    unfold lb_Search_gatherBans_3
    refine r_iload (pc := 3) hX 6 dX6_gatherBans_3 rfl ?_
    refine r_aload_n (pc := 5) hX 0 dX6_gatherBans_5 rfl rfl ?_
    refine r_getI (pc := 6) hX dX6_gatherBans_6 fp6_29 k9 (by decide) ?_
    refine r_icmp_ge (tgt := 110) (pc := 9) hX dX6_gatherBans_9 (by decide) ?_ ?_
    · skip
      exact r_vret (pc := 110) hX hE dX6_gatherBans_110
    · skip
      refine r_iload (pc := 12) hX 6 dX6_gatherBans_12 rfl ?_
      refine r_iload_n (pc := 14) hX 3 dX6_gatherBans_14 rfl rfl ?_
      refine r_join (P := fun k => ∀ (m3 : Me), J X oV (k m3) m3 104 [(0, rX X 9), (1, rX X 10), (2, rX X 3), (3, .int a2), (4, .int a3), (5, .int a4), (6, .int v1)] []) ?_ ?_
      · intro m3
        refine r_iincN (L' := fun w => [(6, .int w), (0, rX X 9), (1, rX X 10), (2, rX X 3), (3, .int a2), (4, .int a3), (5, .int a4)]) (pc := 104) hX 6 dX6_gatherBans_104 rfl rfl (by decide) (fun _ => rfl) (fun v4 => ?_)
        refine r_goto (tgt := 3) (pc := 107) hX dX6_gatherBans_107 (by decide) ?_
        exact r_sub [1, 2, 3, 4, 5, 6, 0] rfl (hs3 v4 m3)
      intro k104_ hk104_
      refine r_icmp_eq (tgt := 104) (pc := 15) hX dX6_gatherBans_15 (by decide) ?_ ?_
      · skip
        exact hk104_ m2
      · skip
        refine r_aload_n (pc := 18) hX 1 dX6_gatherBans_18 rfl rfl ?_
        refine r_aload_n (pc := 19) hX 0 dX6_gatherBans_19 rfl rfl ?_
        refine r_getR (pc := 20) hX dX6_gatherBans_20 fp6_9 k9 rfl g9_0 ?_
        refine r_iload_n (pc := 23) hX 3 dX6_gatherBans_23 rfl rfl ?_
        refine r_iald (pc := 24) hX dX6_gatherBans_24 k100 (fun v5 => ?_)
        refine r_aload_n (pc := 25) hX 0 dX6_gatherBans_25 rfl rfl ?_
        refine r_getR (pc := 26) hX dX6_gatherBans_26 fp6_9 k9 rfl g9_0 ?_
        refine r_iload (pc := 29) hX 6 dX6_gatherBans_29 rfl ?_
        refine r_iald (pc := 31) hX dX6_gatherBans_31 k100 (fun v6 => ?_)
        refine r_cvP (st := []) (pc := 32) hX dX6_gatherBans_32 MI_Chart_areNear MV_Chart_areNear lkX6_112 k10 (c_Chart_areNear v5 v6 m2) rfl rfl (Nat.le_of_ble_eq_true rfl) (by decide) (fun v7 => ?_)
        refine r_if_eq (tgt := 104) (pc := 35) hX dX6_gatherBans_35 (by decide) ?_ ?_
        · skip
          exact hk104_ m2
        · skip
          refine r_aload_n (pc := 38) hX 1 dX6_gatherBans_38 rfl rfl ?_
          refine r_aload_n (pc := 39) hX 0 dX6_gatherBans_39 rfl rfl ?_
          refine r_getR (pc := 40) hX dX6_gatherBans_40 fp6_9 k9 rfl g9_0 ?_
          refine r_iload (pc := 43) hX 6 dX6_gatherBans_43 rfl ?_
          refine r_iald (pc := 45) hX dX6_gatherBans_45 k100 (fun v8 => ?_)
          refine r_aload_n (pc := 46) hX 2 dX6_gatherBans_46 rfl rfl ?_
          refine r_aload_n (pc := 47) hX 0 dX6_gatherBans_47 rfl rfl ?_
          refine r_getR (pc := 48) hX dX6_gatherBans_48 fp6_9 k9 rfl g9_0 ?_
          refine r_iload_n (pc := 51) hX 3 dX6_gatherBans_51 rfl rfl ?_
          refine r_iald (pc := 52) hX dX6_gatherBans_52 k100 (fun v9 => ?_)
          refine r_iload (pc := 53) hX 4 dX6_gatherBans_53 rfl ?_
          refine r_aload_n (pc := 55) hX 0 dX6_gatherBans_55 rfl rfl ?_
          refine r_getR (pc := 56) hX dX6_gatherBans_56 fp6_9 k9 rfl g9_0 ?_
          refine r_iload (pc := 59) hX 6 dX6_gatherBans_59 rfl ?_
          refine r_iald (pc := 61) hX dX6_gatherBans_61 k100 (fun v10 => ?_)
          refine r_cvP (st := [.int v8, rX X 10]) (pc := 62) hX dX6_gatherBans_62 MI_Lay_openHits MV_Lay_openHits lkX6_116 k3 (c_Lay_openHits v9 a3 v10 m2) rfl rfl (Nat.le_of_ble_eq_true rfl) (by decide) (fun v11 => ?_)
          refine r_csP (st := []) (pc := 65) hX dX6_gatherBans_65 MI_Search_byRank MS_Search_byRank lkX6_99 (c_Search_byRank v8 v11 m2) rfl rfl (Nat.le_of_ble_eq_true rfl) (by decide) (fun v12 => ?_)
          refine r_istore (L' := [(7, .int v12), (0, rX X 9), (1, rX X 10), (2, rX X 3), (3, .int a2), (4, .int a3), (5, .int a4), (6, .int v1)]) (pc := 68) hX dX6_gatherBans_68 (by decide) rfl ?_
          refine r_aload_n (pc := 70) hX 1 dX6_gatherBans_70 rfl rfl ?_
          refine r_getR (pc := 71) hX dX6_gatherBans_71 fp6_22 k9 rfl g9_3 ?_
          refine r_iload (pc := 74) hX 6 dX6_gatherBans_74 rfl ?_
          refine r_dup2 (pc := 76) hX dX6_gatherBans_76 rfl rfl ?_
          refine r_lald (pc := 77) hX dX6_gatherBans_77 k103 (fun v13 => ?_)
          refine r_iload (pc := 78) hX 7 dX6_gatherBans_78 rfl ?_
          refine r_iload (pc := 80) hX 0 dX6_gatherBans_80 rfl ?_
          refine r_csL (st := [.long v13, .int a4, rX X 103]) (pc := 82) hX dX6_gatherBans_82 MI_Search_inFront MS_Search_inFront lkX6_85 (c_Search_inFront v1 v12 m2) rfl rfl (Nat.le_of_ble_eq_true rfl) (by decide) (fun v14 => ?_)
          refine r_lor (pc := 85) hX dX6_gatherBans_85 ?_
          refine r_last (pc := 86) hX dX6_gatherBans_86 k103 (fun m15 => ?_)
          refine r_aload_n (pc := 87) hX 1 dX6_gatherBans_87 rfl rfl ?_
          refine r_getR (pc := 88) hX dX6_gatherBans_88 fp6_26 k9 rfl g9_4 ?_
          refine r_iload (pc := 91) hX 6 dX6_gatherBans_91 rfl ?_
          refine r_dup2 (pc := 93) hX dX6_gatherBans_93 rfl rfl ?_
          refine r_lald (pc := 94) hX dX6_gatherBans_94 k104 (fun v16 => ?_)
          refine r_iload (pc := 95) hX 7 dX6_gatherBans_95 rfl ?_
          refine r_iload (pc := 97) hX 0 dX6_gatherBans_97 rfl ?_
          refine r_csL (st := [.long v16, .int a4, rX X 104]) (pc := 99) hX dX6_gatherBans_99 MI_Search_inBack MS_Search_inBack lkX6_91 (c_Search_inBack v1 v12 m15) rfl rfl (Nat.le_of_ble_eq_true rfl) (by decide) (fun v17 => ?_)
          refine r_lor (pc := 102) hX dX6_gatherBans_102 ?_
          refine r_last (pc := 103) hX dX6_gatherBans_103 k104 (fun m18 => ?_)
          exact r_sub [1, 2, 3, 4, 5, 6, 7] rfl (hk104_ m18)
  exact r_sub [1, 2, 3, 4, 5, 6, 0] rfl (hl3 FU (0 : Int32) m)
def lb_Search_gatherOptions_56 (a2 : Int32) (v1 : Int32) (v3 : Int32) (s56 : Int32 → Me → Option Me) (v8 : Int32) (m9 : Me) : Option Me := if (17 : Int32) ≤ v8 then some m9 else bd ((((a2 * (17 : Int32))) + v8)) (fun v10 => wi m9 102 (ln 102) v10 (0 : Int32) (fun m11 => cP (f_Search_inFront a2 (65535 : Int32) m11) (fun v12 => wl m11 103 (ln 103) v10 v12 (fun m13 => cP (f_Search_inBack a2 (65535 : Int32) m13) (fun v14 => wl m13 104 (ln 104) v10 v14 (fun m15 => bd (fun (m16 : Me) => bd (v8 + 1) (fun v17 => (s56 v17 m16))) (fun k153_ => if (((v3 >>> (v8 &&& 31))) &&& (1 : Int32)) = (1 : Int32) then cP (f_Chart_wayByPrice v1 v8 m15) (fun v18 => cP (f_Chart_gainOf v1 v18 m15) (fun v19 => wi m15 102 (ln 102) v10 v19 (fun m20 => cP (f_Search_gatherBans a2 v18 v10 m20) (fun m21 => (k153_ m21))))) else (k153_ m15))))))))
def f_Search_gatherOptions (a2 : Int32) (m : Me) : Option Me := rd (ln 100) a2 (m.1 100) (fun v1 => rd (ln 5) v1 (m.1 5) (fun v2 => cP (f_Search_byRank v1 v2 m) (fun v3 => cP (f_Search_inFront a2 v3 m) (fun v4 => bd (sl m 9 6 ((m.2 9 6) ||| v4)) (fun m5 => cP (f_Search_inBack a2 v3 m5) (fun v6 => bd (sl m5 9 7 ((m5.2 9 7) ||| v6)) (fun m7 => ((fx (lb_Search_gatherOptions_56 a2 v1 v3) (fun _ _ => none) FU) (0 : Int32) m7))))))))
set_option maxHeartbeats 4000000 in
set_option maxRecDepth 100000 in
theorem c_Search_gatherOptions (a2 : Int32)  (m : Me) (r : Me) (h : f_Search_gatherOptions a2 m = some r) : Ct yX6_gatherOptions cX6_gatherOptions 9 none 5 (fun ad => [.ref (ad 9), .ref (ad 10), .ref (ad 3), .int a2]) m (fun ad => (none, r)) := by
  refine mk_ct (F := f_Search_gatherOptions a2 m) (fun _ => oV) r h (fun _ => rfl) (by decide) (fun _ => Nat.le_of_ble_eq_true rfl) ?_
  intro X hX hE
  show J X oV (f_Search_gatherOptions a2 m) m 0 [(0, rX X 9), (1, rX X 10), (2, rX X 3), (3, .int a2)] []
  unfold f_Search_gatherOptions
  refine r_aload_n (pc := 0) hX 0 dX6_gatherOptions_0 rfl rfl ?_
  refine r_getR (pc := 1) hX dX6_gatherOptions_1 fp6_9 k9 rfl g9_0 ?_
  refine r_iload_n (pc := 4) hX 3 dX6_gatherOptions_4 rfl rfl ?_
  refine r_iald (pc := 5) hX dX6_gatherOptions_5 k100 (fun v1 => ?_)
  refine r_istore (L' := [(4, .int v1), (0, rX X 9), (1, rX X 10), (2, rX X 3), (3, .int a2)]) (pc := 6) hX dX6_gatherOptions_6 (by decide) rfl ?_
  refine r_aload_n (pc := 8) hX 2 dX6_gatherOptions_8 rfl rfl ?_
  refine r_iload (pc := 9) hX 0 dX6_gatherOptions_9 rfl ?_
  refine r_aload_n (pc := 11) hX 3 dX6_gatherOptions_11 rfl rfl ?_
  refine r_getR (pc := 12) hX dX6_gatherOptions_12 fp6_94 k3 rfl g3_1 ?_
  refine r_iload (pc := 15) hX 0 dX6_gatherOptions_15 rfl ?_
  refine r_iald (pc := 17) hX dX6_gatherOptions_17 k5 (fun v2 => ?_)
  refine r_csP (st := []) (pc := 18) hX dX6_gatherOptions_18 MI_Search_byRank MS_Search_byRank lkX6_99 (c_Search_byRank v1 v2 m) rfl rfl (Nat.le_of_ble_eq_true rfl) (by decide) (fun v3 => ?_)
  refine r_istore (L' := [(5, .int v3), (4, .int v1), (0, rX X 9), (1, rX X 10), (2, rX X 3), (3, .int a2)]) (pc := 21) hX dX6_gatherOptions_21 (by decide) rfl ?_
  refine r_aload_n (pc := 23) hX 2 dX6_gatherOptions_23 rfl rfl ?_
  refine r_dup (pc := 24) hX dX6_gatherOptions_24 rfl ?_
  refine r_getL (pc := 25) hX dX6_gatherOptions_25 fp6_46 k9 rfl ?_
  refine r_iload_n (pc := 28) hX 5 dX6_gatherOptions_28 rfl rfl ?_
  refine r_iload (pc := 29) hX 0 dX6_gatherOptions_29 rfl ?_
  refine r_csL (st := [.long (m.2 9 6), rX X 9]) (pc := 31) hX dX6_gatherOptions_31 MI_Search_inFront MS_Search_inFront lkX6_85 (c_Search_inFront a2 v3 m) rfl rfl (Nat.le_of_ble_eq_true rfl) (by decide) (fun v4 => ?_)
  refine r_lor (pc := 34) hX dX6_gatherOptions_34 ?_
  refine r_putL (pc := 35) hX dX6_gatherOptions_35 fp6_46 k9 (fun m5 => ?_)
  refine r_aload_n (pc := 38) hX 2 dX6_gatherOptions_38 rfl rfl ?_
  refine r_dup (pc := 39) hX dX6_gatherOptions_39 rfl ?_
  refine r_getL (pc := 40) hX dX6_gatherOptions_40 fp6_50 k9 rfl ?_
  refine r_iload_n (pc := 43) hX 5 dX6_gatherOptions_43 rfl rfl ?_
  refine r_iload (pc := 44) hX 0 dX6_gatherOptions_44 rfl ?_
  refine r_csL (st := [.long (m5.2 9 7), rX X 9]) (pc := 46) hX dX6_gatherOptions_46 MI_Search_inBack MS_Search_inBack lkX6_91 (c_Search_inBack a2 v3 m5) rfl rfl (Nat.le_of_ble_eq_true rfl) (by decide) (fun v6 => ?_)
  refine r_lor (pc := 49) hX dX6_gatherOptions_49 ?_
  refine r_putL (pc := 50) hX dX6_gatherOptions_50 fp6_50 k9 (fun m7 => ?_)
  refine r_iconst (pc := 53) hX dX6_gatherOptions_53 ic_0 ?_
  refine r_istore (L' := [(6, .int (0 : Int32)), (5, .int v3), (4, .int v1), (0, rX X 9), (1, rX X 10), (2, rX X 3), (3, .int a2)]) (pc := 54) hX dX6_gatherOptions_54 (by decide) rfl ?_
  have hl56 : ∀ n : Nat, ∀ (v8 : Int32) (m9 : Me), J X oV (fx (lb_Search_gatherOptions_56 a2 v1 v3) (fun _ _ => none) n v8 m9) m9 56 [(0, rX X 9), (1, rX X 10), (2, rX X 3), (3, .int a2), (4, .int v1), (5, .int v3), (6, .int v8)] [] := by
    refine fx_ind (fun (f : Int32 → Me → Option Me) => ∀ (v8 : Int32) (m9 : Me), J X oV (f v8 m9) m9 56 [(0, rX X 9), (1, rX X 10), (2, rX X 3), (3, .int a2), (4, .int v1), (5, .int v3), (6, .int v8)] []) (fun _ _ => r_none) ?_
    intro s56 hs56 v8 m9
    unfold lb_Search_gatherOptions_56
    refine r_iload (pc := 56) hX 6 dX6_gatherOptions_56 rfl ?_
    refine r_bipush (pc := 58) hX dX6_gatherOptions_58 bp_17 ?_
    refine r_icmp_ge (tgt := 159) (pc := 60) hX dX6_gatherOptions_60 (by decide) ?_ ?_
    · skip
      exact r_vret (pc := 159) hX hE dX6_gatherOptions_159
    · skip
      refine r_iload_n (pc := 63) hX 3 dX6_gatherOptions_63 rfl rfl ?_
      refine r_bipush (pc := 64) hX dX6_gatherOptions_64 bp_17 ?_
      refine r_imul (pc := 66) hX dX6_gatherOptions_66 ?_
      refine r_iload (pc := 67) hX 6 dX6_gatherOptions_67 rfl ?_
      refine r_iadd (pc := 69) hX dX6_gatherOptions_69 ?_
      refine r_nmI (fun v10 => ?_)
      refine r_istore (L' := [(7, .int v10), (0, rX X 9), (1, rX X 10), (2, rX X 3), (3, .int a2), (4, .int v1), (5, .int v3), (6, .int v8)]) (pc := 70) hX dX6_gatherOptions_70 (by decide) rfl ?_
      refine r_aload_n (pc := 72) hX 1 dX6_gatherOptions_72 rfl rfl ?_
      refine r_getR (pc := 73) hX dX6_gatherOptions_73 fp6_19 k9 rfl g9_2 ?_
      refine r_iload (pc := 76) hX 0 dX6_gatherOptions_76 rfl ?_
      refine r_iconst (pc := 78) hX dX6_gatherOptions_78 ic_0 ?_
      refine r_iast (pc := 79) hX dX6_gatherOptions_79 k102 (fun m11 => ?_)
      refine r_aload_n (pc := 80) hX 1 dX6_gatherOptions_80 rfl rfl ?_
      refine r_getR (pc := 81) hX dX6_gatherOptions_81 fp6_22 k9 rfl g9_3 ?_
      refine r_iload (pc := 84) hX 0 dX6_gatherOptions_84 rfl ?_
      refine r_iload_n (pc := 86) hX 4 dX6_gatherOptions_86 rfl rfl ?_
      refine r_ldc (pc := 87) hX dX6_gatherOptions_87 cnX6_84 ?_
      refine r_csL (st := [.int v10, rX X 103]) (pc := 89) hX dX6_gatherOptions_89 MI_Search_inFront MS_Search_inFront lkX6_85 (c_Search_inFront a2 (65535 : Int32) m11) rfl rfl (Nat.le_of_ble_eq_true rfl) (by decide) (fun v12 => ?_)
      refine r_last (pc := 92) hX dX6_gatherOptions_92 k103 (fun m13 => ?_)
      refine r_aload_n (pc := 93) hX 1 dX6_gatherOptions_93 rfl rfl ?_
      refine r_getR (pc := 94) hX dX6_gatherOptions_94 fp6_26 k9 rfl g9_4 ?_
      refine r_iload (pc := 97) hX 0 dX6_gatherOptions_97 rfl ?_
      refine r_iload_n (pc := 99) hX 4 dX6_gatherOptions_99 rfl rfl ?_
      refine r_ldc (pc := 100) hX dX6_gatherOptions_100 cnX6_84 ?_
      refine r_csL (st := [.int v10, rX X 104]) (pc := 102) hX dX6_gatherOptions_102 MI_Search_inBack MS_Search_inBack lkX6_91 (c_Search_inBack a2 (65535 : Int32) m13) rfl rfl (Nat.le_of_ble_eq_true rfl) (by decide) (fun v14 => ?_)
      refine r_last (pc := 105) hX dX6_gatherOptions_105 k104 (fun m15 => ?_)
      refine r_iload (pc := 106) hX 6 dX6_gatherOptions_106 rfl ?_
      refine r_iload (pc := 108) hX 7 dX6_gatherOptions_108 rfl ?_
      refine r_ishr (pc := 110) hX dX6_gatherOptions_110 ?_
      refine r_iconst (pc := 111) hX dX6_gatherOptions_111 ic_1 ?_
      refine r_iand (pc := 112) hX dX6_gatherOptions_112 ?_
      refine r_iconst (pc := 113) hX dX6_gatherOptions_113 ic_1 ?_
      refine r_join (P := fun k => ∀ (m16 : Me), J X oV (k m16) m16 153 [(0, rX X 9), (1, rX X 10), (2, rX X 3), (3, .int a2), (4, .int v1), (5, .int v3), (6, .int v8)] []) ?_ ?_
      · intro m16
        refine r_iincN (L' := fun w => [(6, .int w), (0, rX X 9), (1, rX X 10), (2, rX X 3), (3, .int a2), (4, .int v1), (5, .int v3)]) (pc := 153) hX 6 dX6_gatherOptions_153 rfl rfl (by decide) (fun _ => rfl) (fun v17 => ?_)
        refine r_goto (tgt := 56) (pc := 156) hX dX6_gatherOptions_156 (by decide) ?_
        exact r_sub [1, 2, 3, 4, 5, 6, 0] rfl (hs56 v17 m16)
      intro k153_ hk153_
      refine r_icmp_ne (tgt := 153) (pc := 114) hX dX6_gatherOptions_114 (by decide) ?_ ?_
      · skip
        exact r_sub [1, 2, 3, 4, 5, 6, 7] rfl (hk153_ m15)
      · skip
        refine r_aload_n (pc := 117) hX 2 dX6_gatherOptions_117 rfl rfl ?_
        refine r_iload (pc := 118) hX 5 dX6_gatherOptions_118 rfl ?_
        refine r_iload (pc := 120) hX 7 dX6_gatherOptions_120 rfl ?_
        refine r_cvP (st := []) (pc := 122) hX dX6_gatherOptions_122 MI_Chart_wayByPrice MV_Chart_wayByPrice lkX6_102 k10 (c_Chart_wayByPrice v1 v8 m15) rfl rfl (Nat.le_of_ble_eq_true rfl) (by decide) (fun v18 => ?_)
        refine r_istore (L' := [(8, .int v18), (7, .int v10), (0, rX X 9), (1, rX X 10), (2, rX X 3), (3, .int a2), (4, .int v1), (5, .int v3), (6, .int v8)]) (pc := 125) hX dX6_gatherOptions_125 (by decide) rfl ?_
        refine r_aload_n (pc := 127) hX 2 dX6_gatherOptions_127 rfl rfl ?_
        refine r_getR (pc := 128) hX dX6_gatherOptions_128 fp6_19 k9 rfl g9_2 ?_
        refine r_iload (pc := 131) hX 1 dX6_gatherOptions_131 rfl ?_
        refine r_aload_n (pc := 133) hX 3 dX6_gatherOptions_133 rfl rfl ?_
        refine r_iload (pc := 134) hX 6 dX6_gatherOptions_134 rfl ?_
        refine r_iload (pc := 136) hX 0 dX6_gatherOptions_136 rfl ?_
        refine r_cvP (st := [.int v10, rX X 102]) (pc := 138) hX dX6_gatherOptions_138 MI_Chart_gainOf MV_Chart_gainOf lkX6_105 k10 (c_Chart_gainOf v1 v18 m15) rfl rfl (Nat.le_of_ble_eq_true rfl) (by decide) (fun v19 => ?_)
        refine r_iast (pc := 141) hX dX6_gatherOptions_141 k102 (fun m20 => ?_)
        refine r_aload_n (pc := 142) hX 2 dX6_gatherOptions_142 rfl rfl ?_
        refine r_aload_n (pc := 143) hX 3 dX6_gatherOptions_143 rfl rfl ?_
        refine r_aload_n (pc := 144) hX 4 dX6_gatherOptions_144 rfl rfl ?_
        refine r_iload_n (pc := 145) hX 5 dX6_gatherOptions_145 rfl rfl ?_
        refine r_iload (pc := 146) hX 0 dX6_gatherOptions_146 rfl ?_
        refine r_iload (pc := 148) hX 1 dX6_gatherOptions_148 rfl ?_
        refine r_cvV (st := []) (pc := 150) hX dX6_gatherOptions_150 MI_Search_gatherBans MV_Search_gatherBans lkX6_108 k9 (c_Search_gatherBans a2 v18 v10 m20) rfl rfl (Nat.le_of_ble_eq_true rfl) (by decide) (fun m21 => ?_)
        exact r_sub [2, 3, 4, 5, 6, 7, 8] rfl (hk153_ m21)
  exact r_sub [3, 4, 5, 6, 2, 1, 0] rfl (hl56 FU (0 : Int32) m7)
def lb_Search_seat_110  (s110 : Int32 → Me → Option Me) (v5 : Int32) (m6 : Me) : Option Me := if (m6.1 9 5) ≤ v5 then some m6 else cP (f_Search_gatherOptions v5 m6) (fun m7 => bd (v5 + 1) (fun v8 => (s110 v8 m7)))
def lb_Search_seat_8 (a3 : Int32) (a4 : Nat) (k97_ : Me → Option Me) (s8 : Int32 → Me → Option Me) (v9 : Int32) (m10 : Me) : Option Me := if (m10.1 10 0) ≤ v9 then (k97_ m10) else rd (ln a4) v9 (m10.1 a4) (fun v11 => rd (ln 7) v11 (m10.1 7) (fun v12 => bd (fun (m13 : Me) => bd (v9 + 1) (fun v14 => (s8 v14 m13))) (fun k91_ => if v12 = a3 then if (7 : Int32) ≤ (m10.1 9 5) then (k91_ m10) else wi m10 100 (ln 100) (m10.1 9 5) v11 (fun m15 => rd (ln 11) v11 (m15.1 11) (fun v16 => bd (fun (v17 : Int32) => wz m15 101 (ln 101) (m15.1 9 5) v17 (fun m18 => bd (si m18 9 5 (((m18.1 9 5)) + (1 : Int32))) (fun m19 => (k91_ m19)))) (fun k80_ => if v16 = (3 : Int32) then (k80_ (1 : Int32)) else (k80_ (0 : Int32))))) else (k91_ m10))))
def f_Search_seat (a3 : Int32) (a4 : Nat) (m : Me) : Option Me := bd (si m 9 5 (0 : Int32)) (fun m1 => bd (fun (m2 : Me) => bd (sl m2 9 6 (0 : Int64)) (fun m3 => bd (sl m3 9 7 (0 : Int64)) (fun m4 => ((fx (lb_Search_seat_110) (fun _ _ => none) FU) (0 : Int32) m4)))) (fun k97_ => ((fx (lb_Search_seat_8 a3 a4 k97_) (fun _ _ => none) FU) (0 : Int32) m1)))
set_option maxHeartbeats 4000000 in
set_option maxRecDepth 100000 in
theorem c_Search_seat (a3 : Int32) (a4 : Nat) (ha4 : kd a4 = 20) (m : Me) (r : Me) (h : f_Search_seat a3 a4 m = some r) : Ct yX6_seat cX6_seat 8 none 6 (fun ad => [.ref (ad 9), .ref (ad 10), .ref (ad 3), .ref (ad 6), .int a3, .ref (ad a4)]) m (fun ad => (none, r)) := by
  refine mk_ct (F := f_Search_seat a3 a4 m) (fun _ => oV) r h (fun _ => rfl) (by decide) (fun _ => Nat.le_of_ble_eq_true rfl) ?_
  intro X hX hE
  show J X oV (f_Search_seat a3 a4 m) m 0 [(0, rX X 9), (1, rX X 10), (2, rX X 3), (3, rX X 6), (4, .int a3), (5, rX X a4)] []
  unfold f_Search_seat
  refine r_aload_n (pc := 0) hX 0 dX6_seat_0 rfl rfl ?_
  refine r_iconst (pc := 1) hX dX6_seat_1 ic_0 ?_
  refine r_putI (pc := 2) hX dX6_seat_2 fp6_29 k9 (fun m1 => ?_)
  refine r_iconst (pc := 5) hX dX6_seat_5 ic_0 ?_
  refine r_istore (L' := [(6, .int (0 : Int32)), (0, rX X 9), (1, rX X 10), (2, rX X 3), (3, rX X 6), (4, .int a3), (5, rX X a4)]) (pc := 6) hX dX6_seat_6 (by decide) rfl ?_
  refine r_join (P := fun k => ∀ (m2 : Me), J X oV (k m2) m2 97 [(0, rX X 9), (1, rX X 10), (2, rX X 3)] []) ?_ ?_
  · intro m2
    refine r_aload_n (pc := 97) hX 0 dX6_seat_97 rfl rfl ?_
    refine r_lconst (v := (0 : Int64)) (pc := 98) hX dX6_seat_98 (by decide) ?_
    refine r_putL (pc := 99) hX dX6_seat_99 fp6_46 k9 (fun m3 => ?_)
    refine r_aload_n (pc := 102) hX 0 dX6_seat_102 rfl rfl ?_
    refine r_lconst (v := (0 : Int64)) (pc := 103) hX dX6_seat_103 (by decide) ?_
    refine r_putL (pc := 104) hX dX6_seat_104 fp6_50 k9 (fun m4 => ?_)
    refine r_iconst (pc := 107) hX dX6_seat_107 ic_0 ?_
    refine r_istore (L' := [(6, .int (0 : Int32)), (0, rX X 9), (1, rX X 10), (2, rX X 3)]) (pc := 108) hX dX6_seat_108 (by decide) rfl ?_
    have hl110 : ∀ n : Nat, ∀ (v5 : Int32) (m6 : Me), J X oV (fx (lb_Search_seat_110) (fun _ _ => none) n v5 m6) m6 110 [(0, rX X 9), (1, rX X 10), (2, rX X 3), (6, .int v5)] [] := by
      refine fx_ind (fun (f : Int32 → Me → Option Me) => ∀ (v5 : Int32) (m6 : Me), J X oV (f v5 m6) m6 110 [(0, rX X 9), (1, rX X 10), (2, rX X 3), (6, .int v5)] []) (fun _ _ => r_none) ?_
      intro s110 hs110 v5 m6
      unfold lb_Search_seat_110
      refine r_iload (pc := 110) hX 3 dX6_seat_110 rfl ?_
      refine r_aload_n (pc := 112) hX 0 dX6_seat_112 rfl rfl ?_
      refine r_getI (pc := 113) hX dX6_seat_113 fp6_29 k9 (by decide) ?_
      refine r_icmp_ge (tgt := 133) (pc := 116) hX dX6_seat_116 (by decide) ?_ ?_
      · skip
        exact r_vret (pc := 133) hX hE dX6_seat_133
      · skip
        refine r_aload_n (pc := 119) hX 0 dX6_seat_119 rfl rfl ?_
        refine r_aload_n (pc := 120) hX 1 dX6_seat_120 rfl rfl ?_
        refine r_aload_n (pc := 121) hX 2 dX6_seat_121 rfl rfl ?_
        refine r_iload (pc := 122) hX 3 dX6_seat_122 rfl ?_
        refine r_cvV (st := []) (pc := 124) hX dX6_seat_124 MI_Search_gatherOptions MV_Search_gatherOptions lkX6_53 k9 (c_Search_gatherOptions v5 m6) rfl rfl (Nat.le_of_ble_eq_true rfl) (by decide) (fun m7 => ?_)
        refine r_iincN (L' := fun w => [(6, .int w), (0, rX X 9), (1, rX X 10), (2, rX X 3)]) (pc := 127) hX 3 dX6_seat_127 rfl rfl (by decide) (fun _ => rfl) (fun v8 => ?_)
        refine r_goto (tgt := 110) (pc := 130) hX dX6_seat_130 (by decide) ?_
        exact r_sub [1, 2, 3, 0] rfl (hs110 v8 m7)
    exact r_sub [1, 2, 3, 0] rfl (hl110 FU (0 : Int32) m4)
  intro k97_ hk97_
  have hl8 : ∀ n : Nat, ∀ (v9 : Int32) (m10 : Me), J X oV (fx (lb_Search_seat_8 a3 a4 k97_) (fun _ _ => none) n v9 m10) m10 8 [(0, rX X 9), (1, rX X 10), (2, rX X 3), (3, rX X 6), (4, .int a3), (5, rX X a4), (6, .int v9)] [] := by
    refine fx_ind (fun (f : Int32 → Me → Option Me) => ∀ (v9 : Int32) (m10 : Me), J X oV (f v9 m10) m10 8 [(0, rX X 9), (1, rX X 10), (2, rX X 3), (3, rX X 6), (4, .int a3), (5, rX X a4), (6, .int v9)] []) (fun _ _ => r_none) ?_
    intro s8 hs8 v9 m10
    unfold lb_Search_seat_8
    refine r_iload (pc := 8) hX 6 dX6_seat_8 rfl ?_
    refine r_aload_n (pc := 10) hX 1 dX6_seat_10 rfl rfl ?_
    refine r_getI (pc := 11) hX dX6_seat_11 fp6_33 k10 (by decide) ?_
    refine r_icmp_ge (tgt := 97) (pc := 14) hX dX6_seat_14 (by decide) ?_ ?_
    · skip
      exact r_sub [0, 1, 2] rfl (hk97_ m10)
    · skip
      refine r_aload (pc := 17) hX 5 dX6_seat_17 rfl ?_
      refine r_iload (pc := 19) hX 6 dX6_seat_19 rfl ?_
      refine r_iald (pc := 21) hX dX6_seat_21 ha4 (fun v11 => ?_)
      refine r_istore (L' := [(7, .int v11), (0, rX X 9), (1, rX X 10), (2, rX X 3), (3, rX X 6), (4, .int a3), (5, rX X a4), (6, .int v9)]) (pc := 22) hX dX6_seat_22 (by decide) rfl ?_
      refine r_aload_n (pc := 24) hX 4 dX6_seat_24 rfl rfl ?_
      refine r_getR (pc := 25) hX dX6_seat_25 fp6_38 k6 rfl g6_0 ?_
      refine r_iload (pc := 28) hX 0 dX6_seat_28 rfl ?_
      refine r_iald (pc := 30) hX dX6_seat_30 k7 (fun v12 => ?_)
      refine r_iload (pc := 31) hX 5 dX6_seat_31 rfl ?_
      refine r_join (P := fun k => ∀ (m13 : Me), J X oV (k m13) m13 91 [(0, rX X 9), (1, rX X 10), (2, rX X 3), (3, rX X 6), (4, .int a3), (5, rX X a4), (6, .int v9)] []) ?_ ?_
      · intro m13
        refine r_iincN (L' := fun w => [(6, .int w), (0, rX X 9), (1, rX X 10), (2, rX X 3), (3, rX X 6), (4, .int a3), (5, rX X a4)]) (pc := 91) hX 6 dX6_seat_91 rfl rfl (by decide) (fun _ => rfl) (fun v14 => ?_)
        refine r_goto (tgt := 8) (pc := 94) hX dX6_seat_94 (by decide) ?_
        exact r_sub [1, 2, 3, 4, 5, 6, 0] rfl (hs8 v14 m13)
      intro k91_ hk91_
      refine r_icmp_ne (tgt := 91) (pc := 33) hX dX6_seat_33 (by decide) ?_ ?_
      · skip
        exact r_sub [1, 2, 3, 4, 5, 6, 7] rfl (hk91_ m10)
      · skip
        refine r_aload_n (pc := 36) hX 1 dX6_seat_36 rfl rfl ?_
        refine r_getI (pc := 37) hX dX6_seat_37 fp6_29 k9 (by decide) ?_
        refine r_bipush (pc := 40) hX dX6_seat_40 bp_7 ?_
        refine r_icmp_ge (tgt := 91) (pc := 42) hX dX6_seat_42 (by decide) ?_ ?_
        · skip
          exact r_sub [1, 2, 3, 4, 5, 6, 7] rfl (hk91_ m10)
        · skip
          refine r_aload_n (pc := 45) hX 1 dX6_seat_45 rfl rfl ?_
          refine r_getR (pc := 46) hX dX6_seat_46 fp6_9 k9 rfl g9_0 ?_
          refine r_aload_n (pc := 49) hX 1 dX6_seat_49 rfl rfl ?_
          refine r_getI (pc := 50) hX dX6_seat_50 fp6_29 k9 (by decide) ?_
          refine r_iload (pc := 53) hX 0 dX6_seat_53 rfl ?_
          refine r_iast (pc := 55) hX dX6_seat_55 k100 (fun m15 => ?_)
          refine r_aload_n (pc := 56) hX 1 dX6_seat_56 rfl rfl ?_
          refine r_getR (pc := 57) hX dX6_seat_57 fp6_15 k9 rfl g9_1 ?_
          refine r_aload_n (pc := 60) hX 1 dX6_seat_60 rfl rfl ?_
          refine r_getI (pc := 61) hX dX6_seat_61 fp6_29 k9 (by decide) ?_
          refine r_aload_n (pc := 64) hX 2 dX6_seat_64 rfl rfl ?_
          refine r_getR (pc := 65) hX dX6_seat_65 fp6_43 k10 rfl g10_2 ?_
          refine r_iload (pc := 68) hX 0 dX6_seat_68 rfl ?_
          refine r_iald (pc := 70) hX dX6_seat_70 k11 (fun v16 => ?_)
          refine r_iconst (pc := 71) hX dX6_seat_71 ic_3 ?_
          refine r_join (P := fun k => ∀ (v17 : Int32), J X oV (k v17) m15 80 [(0, rX X 9), (1, rX X 10), (2, rX X 3), (3, rX X 6), (4, .int a3), (5, rX X a4), (6, .int v9)] [.int v17, .int (m15.1 9 5), rX X 101]) ?_ ?_
          · intro v17
            refine r_zast (pc := 80) hX dX6_seat_80 k101 (fun m18 => ?_)
            refine r_aload_n (pc := 81) hX 0 dX6_seat_81 rfl rfl ?_
            refine r_dup (pc := 82) hX dX6_seat_82 rfl ?_
            refine r_getI (pc := 83) hX dX6_seat_83 fp6_29 k9 (by decide) ?_
            refine r_iconst (pc := 86) hX dX6_seat_86 ic_1 ?_
            refine r_iadd (pc := 87) hX dX6_seat_87 ?_
            refine r_putI (pc := 88) hX dX6_seat_88 fp6_29 k9 (fun m19 => ?_)
            exact hk91_ m19
          intro k80_ hk80_
          refine r_icmp_ne (tgt := 79) (pc := 72) hX dX6_seat_72 (by decide) ?_ ?_
          · skip
            refine r_iconst (pc := 79) hX dX6_seat_79 ic_0 ?_
            exact r_sub [1, 2, 3, 4, 5, 6, 7] rfl (hk80_ (0 : Int32))
          · skip
            refine r_iconst (pc := 75) hX dX6_seat_75 ic_1 ?_
            refine r_goto (tgt := 80) (pc := 76) hX dX6_seat_76 (by decide) ?_
            exact r_sub [1, 2, 3, 4, 5, 6, 7] rfl (hk80_ (1 : Int32))
  exact r_sub [1, 2, 3, 4, 5, 6, 0] rfl (hl8 FU (0 : Int32) m1)
def f_Search_bitsOf (a0 : Int32) (a1 : Int64) (a2 : Int64) (m : Me) : Option Int32 := if (4 : Int32) ≤ a0 then bd ((lush a2 ((16 : Int32) * ((a0 - (4 : Int32)))))) (fun v1 => some (((Int64.toInt32 v1)) &&& (65535 : Int32))) else bd ((lush a1 ((16 : Int32) * a0))) (fun v2 => some (((Int64.toInt32 v2)) &&& (65535 : Int32)))
set_option maxHeartbeats 4000000 in
set_option maxRecDepth 100000 in
theorem c_Search_bitsOf (a0 : Int32) (a1 : Int64) (a2 : Int64)  (m : Me) (r : Int32) (h : f_Search_bitsOf a0 a1 a2 m = some r) : Ct yX6_bitsOf cX6_bitsOf 7 (some .int) 0 (fun ad => [.int a0, .long a1, .long a2]) m (fun ad => (some (.int r), m)) := by
  refine mk_ct (F := f_Search_bitsOf a0 a1 a2 m) (fun _ => oP m) r h (fun _ => rfl) (by decide) (fun _ => Nat.le_of_ble_eq_true rfl) ?_
  intro X hX hE
  show J X (oP m) (f_Search_bitsOf a0 a1 a2 m) m 0 [(0, .int a0), (1, .long a1), (3, .long a2)] []
  unfold f_Search_bitsOf
  refine r_iload_n (pc := 0) hX 0 dX6_bitsOf_0 rfl rfl ?_
  refine r_iconst (pc := 1) hX dX6_bitsOf_1 ic_4 ?_
  refine r_icmp_ge (tgt := 14) (pc := 2) hX dX6_bitsOf_2 (by decide) ?_ ?_
  · skip
    refine r_lload_n (pc := 14) hX 2 dX6_bitsOf_14 rfl rfl ?_
    refine r_bipush (pc := 15) hX dX6_bitsOf_15 bp_16 ?_
    refine r_iload_n (pc := 17) hX 0 dX6_bitsOf_17 rfl rfl ?_
    refine r_iconst (pc := 18) hX dX6_bitsOf_18 ic_4 ?_
    refine r_isub (pc := 19) hX dX6_bitsOf_19 ?_
    refine r_imul (pc := 20) hX dX6_bitsOf_20 ?_
    refine r_lushr (pc := 21) hX dX6_bitsOf_21 ?_
    refine r_nmL (fun v1 => ?_)
    refine r_lstore (L' := [(5, .long v1), (0, .int a0), (1, .long a1), (3, .long a2)]) (pc := 22) hX dX6_bitsOf_22 (by decide) rfl ?_
    refine r_lload (pc := 24) hX 0 dX6_bitsOf_24 rfl ?_
    refine r_l2i (pc := 26) hX dX6_bitsOf_26 ?_
    refine r_ldc (pc := 27) hX dX6_bitsOf_27 cnX6_84 ?_
    refine r_iand (pc := 29) hX dX6_bitsOf_29 ?_
    exact r_iretP (pc := 30) hX hE dX6_bitsOf_30
  · skip
    refine r_lload_n (pc := 5) hX 1 dX6_bitsOf_5 rfl rfl ?_
    refine r_bipush (pc := 6) hX dX6_bitsOf_6 bp_16 ?_
    refine r_iload_n (pc := 8) hX 0 dX6_bitsOf_8 rfl rfl ?_
    refine r_imul (pc := 9) hX dX6_bitsOf_9 ?_
    refine r_lushr (pc := 10) hX dX6_bitsOf_10 ?_
    refine r_goto (tgt := 22) (pc := 11) hX dX6_bitsOf_11 (by decide) ?_
    refine r_nmL (fun v2 => ?_)
    refine r_lstore (L' := [(5, .long v2), (0, .int a0), (1, .long a1), (3, .long a2)]) (pc := 22) hX dX6_bitsOf_22 (by decide) rfl ?_
    refine r_lload (pc := 24) hX 0 dX6_bitsOf_24 rfl ?_
    refine r_l2i (pc := 26) hX dX6_bitsOf_26 ?_
    refine r_ldc (pc := 27) hX dX6_bitsOf_27 cnX6_84 ?_
    refine r_iand (pc := 29) hX dX6_bitsOf_29 ?_
    exact r_iretP (pc := 30) hX hE dX6_bitsOf_30
def f_Integer_numberOfTrailingZeros (a0 : Int32) (m : Me) : Option Int32 := bd ((((a0 ^^^ (-1 : Int32))) &&& ((a0 - (1 : Int32))))) (fun v1 => if 0 < v1 then bd (fun (v2 : Int32) (v3 : Int32) => bd (fun (v4 : Int32) (v5 : Int32) => bd (fun (v6 : Int32) (v7 : Int32) => if v6 ≤ (4 : Int32) then some (v7 + ((ush v6 (1 : Int32)))) else bd (v7 + Int32.ofInt (2)) (fun v8 => bd ((ush v6 (2 : Int32))) (fun v9 => some (v8 + ((ush v9 (1 : Int32))))))) (fun k62_ => if v4 ≤ (16 : Int32) then (k62_ v4 v5) else bd (v5 + Int32.ofInt (4)) (fun v10 => bd ((ush v4 (4 : Int32))) (fun v11 => (k62_ v11 v10))))) (fun k49_ => if v2 ≤ (256 : Int32) then (k49_ v2 v3) else bd (v3 + Int32.ofInt (8)) (fun v12 => bd ((ush v2 (8 : Int32))) (fun v13 => (k49_ v13 v12))))) (fun k34_ => if v1 ≤ (65536 : Int32) then (k34_ v1 (1 : Int32)) else bd ((1 : Int32) + Int32.ofInt (16)) (fun v14 => bd ((ush v1 (16 : Int32))) (fun v15 => (k34_ v15 v14)))) else some (v1 &&& (32 : Int32)))
set_option maxHeartbeats 4000000 in
set_option maxRecDepth 100000 in
theorem c_Integer_numberOfTrailingZeros (a0 : Int32)  (m : Me) (r : Int32) (h : f_Integer_numberOfTrailingZeros a0 m = some r) : Ct yJ6_numberOfTrailingZeros_0f7a4 cJ6_numberOfTrailingZeros_0f7a4 2 (some .int) 0 (fun ad => [.int a0]) m (fun ad => (some (.int r), m)) := by
  refine mk_ct (F := f_Integer_numberOfTrailingZeros a0 m) (fun _ => oP m) r h (fun _ => rfl) (by decide) (fun _ => Nat.le_of_ble_eq_true rfl) ?_
  intro X hX hE
  show J X (oP m) (f_Integer_numberOfTrailingZeros a0 m) m 0 [(0, .int a0)] []
  unfold f_Integer_numberOfTrailingZeros
  refine r_iload_n (pc := 0) hX 0 dJ6_numberOfTrailingZeros_0f7a4_0 rfl rfl ?_
  refine r_iconst (pc := 1) hX dJ6_numberOfTrailingZeros_0f7a4_1 ic_m1 ?_
  refine r_ixor (pc := 2) hX dJ6_numberOfTrailingZeros_0f7a4_2 ?_
  refine r_iload_n (pc := 3) hX 0 dJ6_numberOfTrailingZeros_0f7a4_3 rfl rfl ?_
  refine r_iconst (pc := 4) hX dJ6_numberOfTrailingZeros_0f7a4_4 ic_1 ?_
  refine r_isub (pc := 5) hX dJ6_numberOfTrailingZeros_0f7a4_5 ?_
  refine r_iand (pc := 6) hX dJ6_numberOfTrailingZeros_0f7a4_6 ?_
  refine r_nmI (fun v1 => ?_)
  refine r_istore_n (L' := [(0, .int v1)]) (pc := 7) hX dJ6_numberOfTrailingZeros_0f7a4_7 rfl (by decide) rfl ?_
  refine r_iload_n (pc := 8) hX 0 dJ6_numberOfTrailingZeros_0f7a4_8 rfl rfl ?_
  refine r_if_gt (tgt := 17) (pc := 9) hX dJ6_numberOfTrailingZeros_0f7a4_9 (by decide) ?_ ?_
  · skip
    refine r_iconst (pc := 17) hX dJ6_numberOfTrailingZeros_0f7a4_17 ic_1 ?_
    refine r_istore_n (L' := [(1, .int (1 : Int32)), (0, .int v1)]) (pc := 18) hX dJ6_numberOfTrailingZeros_0f7a4_18 rfl (by decide) rfl ?_
    refine r_iload_n (pc := 19) hX 1 dJ6_numberOfTrailingZeros_0f7a4_19 rfl rfl ?_
    refine r_ldcw (pc := 20) hX dJ6_numberOfTrailingZeros_0f7a4_20 cnJ6_264 ?_
    refine r_join (P := fun k => ∀ (v2 : Int32) (v3 : Int32), J X (oP m) (k v2 v3) m 34 [(0, .int v2), (1, .int v3)] []) ?_ ?_
    · intro v2 v3
      refine r_iload_n (pc := 34) hX 0 dJ6_numberOfTrailingZeros_0f7a4_34 rfl rfl ?_
      refine r_sipush (pc := 35) hX dJ6_numberOfTrailingZeros_0f7a4_35 sp_256 ?_
      refine r_join (P := fun k => ∀ (v4 : Int32) (v5 : Int32), J X (oP m) (k v4 v5) m 49 [(0, .int v4), (1, .int v5)] []) ?_ ?_
      · intro v4 v5
        refine r_iload_n (pc := 49) hX 0 dJ6_numberOfTrailingZeros_0f7a4_49 rfl rfl ?_
        refine r_bipush (pc := 50) hX dJ6_numberOfTrailingZeros_0f7a4_50 bp_16 ?_
        refine r_join (P := fun k => ∀ (v6 : Int32) (v7 : Int32), J X (oP m) (k v6 v7) m 62 [(0, .int v6), (1, .int v7)] []) ?_ ?_
        · intro v6 v7
          refine r_iload_n (pc := 62) hX 0 dJ6_numberOfTrailingZeros_0f7a4_62 rfl rfl ?_
          refine r_iconst (pc := 63) hX dJ6_numberOfTrailingZeros_0f7a4_63 ic_4 ?_
          refine r_icmp_le (tgt := 74) (pc := 64) hX dJ6_numberOfTrailingZeros_0f7a4_64 (by decide) ?_ ?_
          · skip
            refine r_iload_n (pc := 74) hX 1 dJ6_numberOfTrailingZeros_0f7a4_74 rfl rfl ?_
            refine r_iload_n (pc := 75) hX 0 dJ6_numberOfTrailingZeros_0f7a4_75 rfl rfl ?_
            refine r_iconst (pc := 76) hX dJ6_numberOfTrailingZeros_0f7a4_76 ic_1 ?_
            refine r_iushr (pc := 77) hX dJ6_numberOfTrailingZeros_0f7a4_77 ?_
            refine r_iadd (pc := 78) hX dJ6_numberOfTrailingZeros_0f7a4_78 ?_
            exact r_iretP (pc := 79) hX hE dJ6_numberOfTrailingZeros_0f7a4_79
          · skip
            refine r_iincN (L' := fun w => [(1, .int w), (0, .int v6)]) (pc := 67) hX 1 dJ6_numberOfTrailingZeros_0f7a4_67 rfl rfl (by decide) (fun _ => rfl) (fun v8 => ?_)
            refine r_iload_n (pc := 70) hX 1 dJ6_numberOfTrailingZeros_0f7a4_70 rfl rfl ?_
            refine r_iconst (pc := 71) hX dJ6_numberOfTrailingZeros_0f7a4_71 ic_2 ?_
            refine r_iushr (pc := 72) hX dJ6_numberOfTrailingZeros_0f7a4_72 ?_
            refine r_nmI (fun v9 => ?_)
            refine r_istore_n (L' := [(0, .int v9), (1, .int v8)]) (pc := 73) hX dJ6_numberOfTrailingZeros_0f7a4_73 rfl (by decide) rfl ?_
            refine r_iload_n (pc := 74) hX 1 dJ6_numberOfTrailingZeros_0f7a4_74 rfl rfl ?_
            refine r_iload_n (pc := 75) hX 0 dJ6_numberOfTrailingZeros_0f7a4_75 rfl rfl ?_
            refine r_iconst (pc := 76) hX dJ6_numberOfTrailingZeros_0f7a4_76 ic_1 ?_
            refine r_iushr (pc := 77) hX dJ6_numberOfTrailingZeros_0f7a4_77 ?_
            refine r_iadd (pc := 78) hX dJ6_numberOfTrailingZeros_0f7a4_78 ?_
            exact r_iretP (pc := 79) hX hE dJ6_numberOfTrailingZeros_0f7a4_79
        intro k62_ hk62_
        refine r_icmp_le (tgt := 62) (pc := 52) hX dJ6_numberOfTrailingZeros_0f7a4_52 (by decide) ?_ ?_
        · skip
          exact hk62_ v4 v5
        · skip
          refine r_iincN (L' := fun w => [(1, .int w), (0, .int v4)]) (pc := 55) hX 1 dJ6_numberOfTrailingZeros_0f7a4_55 rfl rfl (by decide) (fun _ => rfl) (fun v10 => ?_)
          refine r_iload_n (pc := 58) hX 1 dJ6_numberOfTrailingZeros_0f7a4_58 rfl rfl ?_
          refine r_iconst (pc := 59) hX dJ6_numberOfTrailingZeros_0f7a4_59 ic_4 ?_
          refine r_iushr (pc := 60) hX dJ6_numberOfTrailingZeros_0f7a4_60 ?_
          refine r_nmI (fun v11 => ?_)
          refine r_istore_n (L' := [(0, .int v11), (1, .int v10)]) (pc := 61) hX dJ6_numberOfTrailingZeros_0f7a4_61 rfl (by decide) rfl ?_
          exact hk62_ v11 v10
      intro k49_ hk49_
      refine r_icmp_le (tgt := 49) (pc := 38) hX dJ6_numberOfTrailingZeros_0f7a4_38 (by decide) ?_ ?_
      · skip
        exact hk49_ v2 v3
      · skip
        refine r_iincN (L' := fun w => [(1, .int w), (0, .int v2)]) (pc := 41) hX 1 dJ6_numberOfTrailingZeros_0f7a4_41 rfl rfl (by decide) (fun _ => rfl) (fun v12 => ?_)
        refine r_iload_n (pc := 44) hX 1 dJ6_numberOfTrailingZeros_0f7a4_44 rfl rfl ?_
        refine r_bipush (pc := 45) hX dJ6_numberOfTrailingZeros_0f7a4_45 bp_8 ?_
        refine r_iushr (pc := 47) hX dJ6_numberOfTrailingZeros_0f7a4_47 ?_
        refine r_nmI (fun v13 => ?_)
        refine r_istore_n (L' := [(0, .int v13), (1, .int v12)]) (pc := 48) hX dJ6_numberOfTrailingZeros_0f7a4_48 rfl (by decide) rfl ?_
        exact hk49_ v13 v12
    intro k34_ hk34_
    refine r_icmp_le (tgt := 34) (pc := 23) hX dJ6_numberOfTrailingZeros_0f7a4_23 (by decide) ?_ ?_
    · skip
      exact r_sub [1, 0] rfl (hk34_ v1 (1 : Int32))
    · skip
      refine r_iincN (L' := fun w => [(1, .int w), (0, .int v1)]) (pc := 26) hX 0 dJ6_numberOfTrailingZeros_0f7a4_26 rfl rfl (by decide) (fun _ => rfl) (fun v14 => ?_)
      refine r_iload_n (pc := 29) hX 1 dJ6_numberOfTrailingZeros_0f7a4_29 rfl rfl ?_
      refine r_bipush (pc := 30) hX dJ6_numberOfTrailingZeros_0f7a4_30 bp_16 ?_
      refine r_iushr (pc := 32) hX dJ6_numberOfTrailingZeros_0f7a4_32 ?_
      refine r_nmI (fun v15 => ?_)
      refine r_istore_n (L' := [(0, .int v15), (1, .int v14)]) (pc := 33) hX dJ6_numberOfTrailingZeros_0f7a4_33 rfl (by decide) rfl ?_
      exact hk34_ v15 v14
  · skip
    refine r_iload_n (pc := 12) hX 0 dJ6_numberOfTrailingZeros_0f7a4_12 rfl rfl ?_
    refine r_bipush (pc := 13) hX dJ6_numberOfTrailingZeros_0f7a4_13 bp_32 ?_
    refine r_iand (pc := 15) hX dJ6_numberOfTrailingZeros_0f7a4_15 ?_
    exact r_iretP (pc := 16) hX hE dJ6_numberOfTrailingZeros_0f7a4_16
def lb_Search_hope_6 (a1 : Int64) (a2 : Int64) (m : Me) (s6 : Int32 → Int32 → Option Int32) (v1 : Int32) (v2 : Int32) : Option Int32 := if (m.1 9 5) ≤ v2 then some v1 else cP (f_Search_bitsOf v2 a1 a2 m) (fun v3 => bd (fun (v4 : Int32) => bd (v2 + 1) (fun v5 => (s6 v4 v5))) (fun k67_ => if v3 = 0 then rd (ln 101) v2 (m.1 101) (fun v6 => if v6 = 0 then (k67_ v1) else some (-1000000000 : Int32)) else cP (f_Integer_numberOfTrailingZeros v3 m) (fun v7 => rd (ln 102) (((v2 * (17 : Int32))) + v7) (m.1 102) (fun v8 => bd ((v1 + v8)) (fun v9 => (k67_ v9))))))
def f_Search_hope (a0 : Int32) (a1 : Int64) (a2 : Int64) (m : Me) : Option Int32 := ((fx (lb_Search_hope_6 a1 a2 m) (fun _ _ => none) FU) (0 : Int32) a0)
set_option maxHeartbeats 4000000 in
set_option maxRecDepth 100000 in
theorem c_Search_hope (a0 : Int32) (a1 : Int64) (a2 : Int64)  (m : Me) (r : Int32) (h : f_Search_hope a0 a1 a2 m = some r) : Ct yX6_hope cX6_hope 9 (some .int) 1 (fun ad => [.ref (ad 9), .int a0, .long a1, .long a2]) m (fun ad => (some (.int r), m)) := by
  refine mk_ct (F := f_Search_hope a0 a1 a2 m) (fun _ => oP m) r h (fun _ => rfl) (by decide) (fun _ => Nat.le_of_ble_eq_true rfl) ?_
  intro X hX hE
  show J X (oP m) (f_Search_hope a0 a1 a2 m) m 0 [(0, rX X 9), (1, .int a0), (2, .long a1), (4, .long a2)] []
  unfold f_Search_hope
  refine r_iconst (pc := 0) hX dX6_hope_0 ic_0 ?_
  refine r_istore (L' := [(6, .int (0 : Int32)), (0, rX X 9), (1, .int a0), (2, .long a1), (4, .long a2)]) (pc := 1) hX dX6_hope_1 (by decide) rfl ?_
  refine r_iload_n (pc := 3) hX 2 dX6_hope_3 rfl rfl ?_
  refine r_istore (L' := [(7, .int a0), (6, .int (0 : Int32)), (0, rX X 9), (1, .int a0), (2, .long a1), (4, .long a2)]) (pc := 4) hX dX6_hope_4 (by decide) rfl ?_
  have hl6 : ∀ n : Nat, ∀ (v1 : Int32) (v2 : Int32), J X (oP m) (fx (lb_Search_hope_6 a1 a2 m) (fun _ _ => none) n v1 v2) m 6 [(0, rX X 9), (2, .long a1), (4, .long a2), (6, .int v1), (7, .int v2)] [] := by
    refine fx_ind (fun (f : Int32 → Int32 → Option Int32) => ∀ (v1 : Int32) (v2 : Int32), J X (oP m) (f v1 v2) m 6 [(0, rX X 9), (2, .long a1), (4, .long a2), (6, .int v1), (7, .int v2)] []) (fun _ _ => r_none) ?_
    intro s6 hs6 v1 v2
    unfold lb_Search_hope_6
    refine r_iload (pc := 6) hX 4 dX6_hope_6 rfl ?_
    refine r_aload_n (pc := 8) hX 0 dX6_hope_8 rfl rfl ?_
    refine r_getI (pc := 9) hX dX6_hope_9 fp6_29 k9 (by decide) ?_
    refine r_icmp_ge (tgt := 73) (pc := 12) hX dX6_hope_12 (by decide) ?_ ?_
    · skip
      refine r_iload (pc := 73) hX 3 dX6_hope_73 rfl ?_
      exact r_iretP (pc := 75) hX hE dX6_hope_75
    · skip
      refine r_iload (pc := 15) hX 4 dX6_hope_15 rfl ?_
      refine r_lload_n (pc := 17) hX 1 dX6_hope_17 rfl rfl ?_
      refine r_lload (pc := 18) hX 2 dX6_hope_18 rfl ?_
      refine r_csP (st := []) (pc := 20) hX dX6_hope_20 MI_Search_bitsOf MS_Search_bitsOf lkX6_72 (c_Search_bitsOf v2 a1 a2 m) rfl rfl (Nat.le_of_ble_eq_true rfl) (by decide) (fun v3 => ?_)
      refine r_istore (L' := [(8, .int v3), (0, rX X 9), (2, .long a1), (4, .long a2), (6, .int v1), (7, .int v2)]) (pc := 23) hX dX6_hope_23 (by decide) rfl ?_
      refine r_iload (pc := 25) hX 0 dX6_hope_25 rfl ?_
      refine r_join (P := fun k => ∀ (v4 : Int32), J X (oP m) (k v4) m 67 [(0, rX X 9), (2, .long a1), (4, .long a2), (6, .int v4), (7, .int v2)] []) ?_ ?_
      · intro v4
        refine r_iincN (L' := fun w => [(7, .int w), (0, rX X 9), (2, .long a1), (4, .long a2), (6, .int v4)]) (pc := 67) hX 4 dX6_hope_67 rfl rfl (by decide) (fun _ => rfl) (fun v5 => ?_)
        refine r_goto (tgt := 6) (pc := 70) hX dX6_hope_70 (by decide) ?_
        exact r_sub [1, 2, 3, 4, 0] rfl (hs6 v4 v5)
      intro k67_ hk67_
      refine r_if_eq (tgt := 54) (pc := 27) hX dX6_hope_27 (by decide) ?_ ?_
      · skip
        refine r_aload_n (pc := 54) hX 1 dX6_hope_54 rfl rfl ?_
        refine r_getR (pc := 55) hX dX6_hope_55 fp6_15 k9 rfl g9_1 ?_
        refine r_iload (pc := 58) hX 5 dX6_hope_58 rfl ?_
        refine r_zald (pc := 60) hX dX6_hope_60 k101 (fun v6 => ?_)
        refine r_if_eq (tgt := 67) (pc := 61) hX dX6_hope_61 (by decide) ?_ ?_
        · skip
          exact r_sub [1, 2, 3, 4, 5] rfl (hk67_ v1)
        · skip
          refine r_ldc (pc := 64) hX dX6_hope_64 cnX6_139 ?_
          exact r_iretP (pc := 66) hX hE dX6_hope_66
      · skip
        refine r_iload (pc := 30) hX 4 dX6_hope_30 rfl ?_
        refine r_aload_n (pc := 32) hX 1 dX6_hope_32 rfl rfl ?_
        refine r_getR (pc := 33) hX dX6_hope_33 fp6_19 k9 rfl g9_2 ?_
        refine r_iload (pc := 36) hX 5 dX6_hope_36 rfl ?_
        refine r_bipush (pc := 38) hX dX6_hope_38 bp_17 ?_
        refine r_imul (pc := 40) hX dX6_hope_40 ?_
        refine r_iload (pc := 41) hX 0 dX6_hope_41 rfl ?_
        refine r_csP (st := [.int (v2 * (17 : Int32)), rX X 102, .int v1]) (pc := 43) hX dX6_hope_43 MI_Integer_numberOfTrailingZeros MS_Integer_numberOfTrailingZeros lkX6_133 (c_Integer_numberOfTrailingZeros v3 m) rfl rfl (Nat.le_of_ble_eq_true rfl) (by decide) (fun v7 => ?_)
        refine r_iadd (pc := 46) hX dX6_hope_46 ?_
        refine r_iald (pc := 47) hX dX6_hope_47 k102 (fun v8 => ?_)
        refine r_iadd (pc := 48) hX dX6_hope_48 ?_
        refine r_nmI (fun v9 => ?_)
        refine r_istore (L' := [(6, .int v9), (8, .int v3), (0, rX X 9), (2, .long a1), (4, .long a2), (7, .int v2)]) (pc := 49) hX dX6_hope_49 (by decide) rfl ?_
        refine r_goto (tgt := 67) (pc := 51) hX dX6_hope_51 (by decide) ?_
        exact r_sub [2, 3, 4, 0, 5] rfl (hk67_ v9)
  exact r_sub [2, 4, 5, 1, 0] rfl (hl6 FU (0 : Int32) a0)
def lb_Search_isBeaten_14 (a0 : Int32) (a2 : Int32) (a3 : Int64) (a4 : Int64) (m : Me) (v1 : Int32) (s14 : Int32 → Option Int32) (v3 : Int32) : Option Int32 := if v1 ≤ v3 then some (0 : Int32) else bd (fun (v4 : Int32) => bd (bd (v3 + 1) (fun v5 => (s14 v5))) (fun k104_ => if v4 = 0 then (k104_) else rd (ln 103) v3 (m.2 103) (fun v6 => rd (ln 103) v1 (m.2 103) (fun v7 => if (lg_cmp ((v6 &&& (v7 ^^^ (-1 : Int64))) &&& a3) (0 : Int64)) = 0 then rd (ln 104) v3 (m.2 104) (fun v8 => rd (ln 104) v1 (m.2 104) (fun v9 => if (lg_cmp ((v8 &&& (v9 ^^^ (-1 : Int64))) &&& a4) (0 : Int64)) = 0 then some (1 : Int32) else (k104_))) else (k104_))))) (fun k41_ => if (((a2 >>> (((v3 - ((a0 * (17 : Int32))))) &&& 31))) &&& (1 : Int32)) = (1 : Int32) then (k41_ (1 : Int32)) else (k41_ (0 : Int32)))
def f_Search_isBeaten (a0 : Int32) (a1 : Int32) (a2 : Int32) (a3 : Int64) (a4 : Int64) (m : Me) : Option Int32 := bd ((((a0 * (17 : Int32))) + a1)) (fun v1 => bd ((a0 * (17 : Int32))) (fun v2 => ((fx (lb_Search_isBeaten_14 a0 a2 a3 a4 m v1) (fun _ => none) FU) v2)))
set_option maxHeartbeats 4000000 in
set_option maxRecDepth 100000 in
theorem c_Search_isBeaten (a0 : Int32) (a1 : Int32) (a2 : Int32) (a3 : Int64) (a4 : Int64)  (m : Me) (r : Int32) (h : f_Search_isBeaten a0 a1 a2 a3 a4 m = some r) : Ct yX6_isBeaten cX6_isBeaten 11 (some .boolean) 0 (fun ad => [.ref (ad 9), .int a0, .int a1, .int a2, .long a3, .long a4]) m (fun ad => (some (.int r), m)) := by
  refine mk_ct (F := f_Search_isBeaten a0 a1 a2 a3 a4 m) (fun _ => oP m) r h (fun _ => rfl) (by decide) (fun _ => Nat.le_of_ble_eq_true rfl) ?_
  intro X hX hE
  show J X (oP m) (f_Search_isBeaten a0 a1 a2 a3 a4 m) m 0 [(0, rX X 9), (1, .int a0), (2, .int a1), (3, .int a2), (4, .long a3), (6, .long a4)] []
  unfold f_Search_isBeaten
  refine r_iload_n (pc := 0) hX 1 dX6_isBeaten_0 rfl rfl ?_
  refine r_bipush (pc := 1) hX dX6_isBeaten_1 bp_17 ?_
  refine r_imul (pc := 3) hX dX6_isBeaten_3 ?_
  refine r_iload_n (pc := 4) hX 2 dX6_isBeaten_4 rfl rfl ?_
  refine r_iadd (pc := 5) hX dX6_isBeaten_5 ?_
  refine r_nmI (fun v1 => ?_)
  refine r_istore (L' := [(8, .int v1), (0, rX X 9), (1, .int a0), (2, .int a1), (3, .int a2), (4, .long a3), (6, .long a4)]) (pc := 6) hX dX6_isBeaten_6 (by decide) rfl ?_
  refine r_iload_n (pc := 8) hX 2 dX6_isBeaten_8 rfl rfl ?_
  refine r_bipush (pc := 9) hX dX6_isBeaten_9 bp_17 ?_
  refine r_imul (pc := 11) hX dX6_isBeaten_11 ?_
  refine r_nmI (fun v2 => ?_)
  refine r_istore (L' := [(9, .int v2), (8, .int v1), (0, rX X 9), (1, .int a0), (2, .int a1), (3, .int a2), (4, .long a3), (6, .long a4)]) (pc := 12) hX dX6_isBeaten_12 (by decide) rfl ?_
  have hl14 : ∀ n : Nat, ∀ (v3 : Int32), J X (oP m) (fx (lb_Search_isBeaten_14 a0 a2 a3 a4 m v1) (fun _ => none) n v3) m 14 [(0, rX X 9), (1, .int a0), (3, .int a2), (4, .long a3), (6, .long a4), (8, .int v1), (9, .int v3)] [] := by
    refine fx_ind (fun (f : Int32 → Option Int32) => ∀ (v3 : Int32), J X (oP m) (f v3) m 14 [(0, rX X 9), (1, .int a0), (3, .int a2), (4, .long a3), (6, .long a4), (8, .int v1), (9, .int v3)] []) (fun _ => r_none) ?_
    intro s14 hs14 v3
    unfold lb_Search_isBeaten_14
    refine r_iload (pc := 14) hX 6 dX6_isBeaten_14 rfl ?_
    refine r_iload (pc := 16) hX 5 dX6_isBeaten_16 rfl ?_
    refine r_icmp_ge (tgt := 110) (pc := 18) hX dX6_isBeaten_18 (by decide) ?_ ?_
    · skip
      refine r_iconst (pc := 110) hX dX6_isBeaten_110 ic_0 ?_
      exact r_zretPk (pc := 111) hX hE dX6_isBeaten_111 (by decide)
    · skip
      refine r_iload_n (pc := 21) hX 2 dX6_isBeaten_21 rfl rfl ?_
      refine r_iload (pc := 22) hX 6 dX6_isBeaten_22 rfl ?_
      refine r_iload_n (pc := 24) hX 1 dX6_isBeaten_24 rfl rfl ?_
      refine r_bipush (pc := 25) hX dX6_isBeaten_25 bp_17 ?_
      refine r_imul (pc := 27) hX dX6_isBeaten_27 ?_
      refine r_isub (pc := 28) hX dX6_isBeaten_28 ?_
      refine r_ishr (pc := 29) hX dX6_isBeaten_29 ?_
      refine r_iconst (pc := 30) hX dX6_isBeaten_30 ic_1 ?_
      refine r_iand (pc := 31) hX dX6_isBeaten_31 ?_
      refine r_iconst (pc := 32) hX dX6_isBeaten_32 ic_1 ?_
      refine r_join (P := fun k => ∀ (v4 : Int32), J X (oP m) (k v4) m 41 [(0, rX X 9), (1, .int a0), (3, .int a2), (4, .long a3), (6, .long a4), (8, .int v1), (9, .int v3)] [.int v4]) ?_ ?_
      · intro v4
        refine r_istore (L' := [(10, .int v4), (0, rX X 9), (1, .int a0), (3, .int a2), (4, .long a3), (6, .long a4), (8, .int v1), (9, .int v3)]) (pc := 41) hX dX6_isBeaten_41 (by decide) rfl ?_
        refine r_iload (pc := 43) hX 0 dX6_isBeaten_43 rfl ?_
        refine r_join (P := fun k => J X (oP m) (k) m 104 [(0, rX X 9), (1, .int a0), (3, .int a2), (4, .long a3), (6, .long a4), (8, .int v1), (9, .int v3)] []) ?_ ?_
        · skip
          refine r_iincN (L' := fun w => [(9, .int w), (0, rX X 9), (1, .int a0), (3, .int a2), (4, .long a3), (6, .long a4), (8, .int v1)]) (pc := 104) hX 6 dX6_isBeaten_104 rfl rfl (by decide) (fun _ => rfl) (fun v5 => ?_)
          refine r_goto (tgt := 14) (pc := 107) hX dX6_isBeaten_107 (by decide) ?_
          exact r_sub [1, 2, 3, 4, 5, 6, 0] rfl (hs14 v5)
        intro k104_ hk104_
        refine r_if_eq (tgt := 104) (pc := 45) hX dX6_isBeaten_45 (by decide) ?_ ?_
        · skip
          exact r_sub [1, 2, 3, 4, 5, 6, 7] rfl (hk104_)
        · skip
          refine r_aload_n (pc := 48) hX 1 dX6_isBeaten_48 rfl rfl ?_
          refine r_getR (pc := 49) hX dX6_isBeaten_49 fp6_22 k9 rfl g9_3 ?_
          refine r_iload (pc := 52) hX 7 dX6_isBeaten_52 rfl ?_
          refine r_lald (pc := 54) hX dX6_isBeaten_54 k103 (fun v6 => ?_)
          refine r_aload_n (pc := 55) hX 1 dX6_isBeaten_55 rfl rfl ?_
          refine r_getR (pc := 56) hX dX6_isBeaten_56 fp6_22 k9 rfl g9_3 ?_
          refine r_iload (pc := 59) hX 6 dX6_isBeaten_59 rfl ?_
          refine r_lald (pc := 61) hX dX6_isBeaten_61 k103 (fun v7 => ?_)
          refine r_ldc2 (pc := 62) hX dX6_isBeaten_62 cnX6_89 ?_
          refine r_lxor (pc := 65) hX dX6_isBeaten_65 ?_
          refine r_land (pc := 66) hX dX6_isBeaten_66 ?_
          refine r_lload (pc := 67) hX 4 dX6_isBeaten_67 rfl ?_
          refine r_land (pc := 69) hX dX6_isBeaten_69 ?_
          refine r_lconst (v := (0 : Int64)) (pc := 70) hX dX6_isBeaten_70 (by decide) ?_
          refine r_lcmp (pc := 71) hX dX6_isBeaten_71 ?_
          refine r_if_ne (tgt := 104) (pc := 72) hX dX6_isBeaten_72 (by decide) ?_ ?_
          · skip
            exact r_sub [1, 2, 3, 4, 5, 6, 7] rfl (hk104_)
          · skip
            refine r_aload_n (pc := 75) hX 1 dX6_isBeaten_75 rfl rfl ?_
            refine r_getR (pc := 76) hX dX6_isBeaten_76 fp6_26 k9 rfl g9_4 ?_
            refine r_iload (pc := 79) hX 7 dX6_isBeaten_79 rfl ?_
            refine r_lald (pc := 81) hX dX6_isBeaten_81 k104 (fun v8 => ?_)
            refine r_aload_n (pc := 82) hX 1 dX6_isBeaten_82 rfl rfl ?_
            refine r_getR (pc := 83) hX dX6_isBeaten_83 fp6_26 k9 rfl g9_4 ?_
            refine r_iload (pc := 86) hX 6 dX6_isBeaten_86 rfl ?_
            refine r_lald (pc := 88) hX dX6_isBeaten_88 k104 (fun v9 => ?_)
            refine r_ldc2 (pc := 89) hX dX6_isBeaten_89 cnX6_89 ?_
            refine r_lxor (pc := 92) hX dX6_isBeaten_92 ?_
            refine r_land (pc := 93) hX dX6_isBeaten_93 ?_
            refine r_lload (pc := 94) hX 5 dX6_isBeaten_94 rfl ?_
            refine r_land (pc := 96) hX dX6_isBeaten_96 ?_
            refine r_lconst (v := (0 : Int64)) (pc := 97) hX dX6_isBeaten_97 (by decide) ?_
            refine r_lcmp (pc := 98) hX dX6_isBeaten_98 ?_
            refine r_if_ne (tgt := 104) (pc := 99) hX dX6_isBeaten_99 (by decide) ?_ ?_
            · skip
              exact r_sub [1, 2, 3, 4, 5, 6, 7] rfl (hk104_)
            · skip
              refine r_iconst (pc := 102) hX dX6_isBeaten_102 ic_1 ?_
              exact r_zretPk (pc := 103) hX hE dX6_isBeaten_103 (by decide)
      intro k41_ hk41_
      refine r_icmp_ne (tgt := 40) (pc := 33) hX dX6_isBeaten_33 (by decide) ?_ ?_
      · skip
        refine r_iconst (pc := 40) hX dX6_isBeaten_40 ic_0 ?_
        exact hk41_ (0 : Int32)
      · skip
        refine r_iconst (pc := 36) hX dX6_isBeaten_36 ic_1 ?_
        refine r_goto (tgt := 41) (pc := 37) hX dX6_isBeaten_37 (by decide) ?_
        exact hk41_ (1 : Int32)
  exact r_sub [2, 3, 5, 6, 7, 1, 0] rfl (hl14 FU v2)
def lb_Search_descend_69 (a0 : Int32) (a1 : Int64) (a2 : Int64) (a3 : Int32) (rec : Int32 → Int64 → Int64 → Int32 → Me → Option Me) (v5 : Int32) (s69 : Int32 → Me → Option Me) (v6 : Int32) (m7 : Me) : Option Me := if (17 : Int32) ≤ v6 then some m7 else if (m7.1 9 9) ≤ (m7.1 9 8) then some m7 else bd ((((a0 * (17 : Int32))) + v6)) (fun v8 => bd (fun (m9 : Me) => bd (v6 + 1) (fun v10 => (s69 v10 m9))) (fun k166_ => if (((v5 >>> (v6 &&& 31))) &&& (1 : Int32)) = (1 : Int32) then cP (f_Search_isBeaten a0 v6 v5 a1 a2 m7) (fun v11 => if v11 = 0 then rd (ln 103) v8 (m7.2 103) (fun v12 => rd (ln 104) v8 (m7.2 104) (fun v13 => rd (ln 102) v8 (m7.1 102) (fun v14 => cP (rec (a0 + (1 : Int32)) (a1 &&& (v12 ^^^ (-1 : Int64))) (a2 &&& (v13 ^^^ (-1 : Int64))) (a3 + v14) m7) (fun m15 => (k166_ m15))))) else (k166_ m7)) else (k166_ m7)))
def fb_Search_descend (rec : Int32 → Int64 → Int64 → Int32 → Me → Option Me) (a0 : Int32) (a1 : Int64) (a2 : Int64) (a3 : Int32) (m : Me) : Option Me := if a0 < (m.1 9 5) then cP (f_Search_hope a0 a1 a2 m) (fun v1 => if (m.1 9 8) < (a3 + v1) then cP (f_Search_bitsOf a0 a1 a2 m) (fun v2 => rd (ln 101) a0 (m.1 101) (fun v3 => bd (fun (v4 : Int32) => bd ((v2 ||| v4)) (fun v5 => ((fx (lb_Search_descend_69 a0 a1 a2 a3 rec v5) (fun _ _ => none) FU) (0 : Int32) m))) (fun k63_ => if v3 = 0 then (k63_ (65536 : Int32)) else (k63_ (0 : Int32))))) else some m) else bd (si m 9 8 (mx (m.1 9 8) a3)) (fun m16 => some m16)
def f_Search_descend (n : Nat) : Int32 → Int64 → Int64 → Int32 → Me → Option Me := fx fb_Search_descend (fun _ _ _ _ _ => none) n
set_option maxHeartbeats 4000000 in
set_option maxRecDepth 100000 in
theorem c_Search_descend : ∀ (n : Nat) (a0 : Int32) (a1 : Int64) (a2 : Int64) (a3 : Int32)  (m : Me) (r : Me) (h : f_Search_descend n a0 a1 a2 a3 m = some r), Ct yX6_descend cX6_descend 10 none (2 + n) (fun ad => [.ref (ad 9), .int a0, .long a1, .long a2, .int a3]) m (fun ad => (none, r)) := by
  intro n
  induction n with
  | zero => intro a0 a1 a2 a3  m r h; cases h
  | succ n ih =>
  intro a0 a1 a2 a3  m r h
  refine mk_ct (F := fb_Search_descend (f_Search_descend n) a0 a1 a2 a3 m) (fun _ => oV) r h (fun _ => rfl) (by decide) (fun _ => Nat.le_of_ble_eq_true rfl) ?_
  intro X hX hE
  generalize f_Search_descend n = rec at ih ⊢
  show J X oV (fb_Search_descend rec a0 a1 a2 a3 m) m 0 [(0, rX X 9), (1, .int a0), (2, .long a1), (4, .long a2), (6, .int a3)] []
  unfold fb_Search_descend
  refine r_iload_n (pc := 0) hX 1 dX6_descend_0 rfl rfl ?_
  refine r_aload_n (pc := 1) hX 0 dX6_descend_1 rfl rfl ?_
  refine r_getI (pc := 2) hX dX6_descend_2 fp6_29 k9 (by decide) ?_
  refine r_icmp_lt (tgt := 22) (pc := 5) hX dX6_descend_5 (by decide) ?_ ?_
  · skip
    refine r_iload (pc := 22) hX 4 dX6_descend_22 rfl ?_
    refine r_aload_n (pc := 24) hX 0 dX6_descend_24 rfl rfl ?_
    refine r_iload_n (pc := 25) hX 1 dX6_descend_25 rfl rfl ?_
    refine r_lload_n (pc := 26) hX 2 dX6_descend_26 rfl rfl ?_
    refine r_lload (pc := 27) hX 3 dX6_descend_27 rfl ?_
    refine r_cvP (st := [.int a3]) (pc := 29) hX dX6_descend_29 MI_Search_hope MV_Search_hope lkX6_125 k9 (c_Search_hope a0 a1 a2 m) rfl rfl (Nat.le_of_ble_eq_true rfl) (by omega) (fun v1 => ?_)
    refine r_iadd (pc := 32) hX dX6_descend_32 ?_
    refine r_aload_n (pc := 33) hX 0 dX6_descend_33 rfl rfl ?_
    refine r_getI (pc := 34) hX dX6_descend_34 fp6_57 k9 (by decide) ?_
    refine r_icmp_gt (tgt := 41) (pc := 37) hX dX6_descend_37 (by decide) ?_ ?_
    · skip
      refine r_iload_n (pc := 41) hX 1 dX6_descend_41 rfl rfl ?_
      refine r_lload_n (pc := 42) hX 2 dX6_descend_42 rfl rfl ?_
      refine r_lload (pc := 43) hX 3 dX6_descend_43 rfl ?_
      refine r_csP (st := []) (pc := 45) hX dX6_descend_45 MI_Search_bitsOf MS_Search_bitsOf lkX6_72 (c_Search_bitsOf a0 a1 a2 m) rfl rfl (Nat.le_of_ble_eq_true rfl) (by omega) (fun v2 => ?_)
      refine r_aload_n (pc := 48) hX 0 dX6_descend_48 rfl rfl ?_
      refine r_getR (pc := 49) hX dX6_descend_49 fp6_15 k9 rfl g9_1 ?_
      refine r_iload_n (pc := 52) hX 1 dX6_descend_52 rfl rfl ?_
      refine r_zald (pc := 53) hX dX6_descend_53 k101 (fun v3 => ?_)
      refine r_join (P := fun k => ∀ (v4 : Int32), J X oV (k v4) m 63 [(0, rX X 9), (1, .int a0), (2, .long a1), (4, .long a2), (6, .int a3)] [.int v4, .int v2]) ?_ ?_
      · intro v4
        refine r_ior (pc := 63) hX dX6_descend_63 ?_
        refine r_nmI (fun v5 => ?_)
        refine r_istore (L' := [(7, .int v5), (0, rX X 9), (1, .int a0), (2, .long a1), (4, .long a2), (6, .int a3)]) (pc := 64) hX dX6_descend_64 (by decide) rfl ?_
        refine r_iconst (pc := 66) hX dX6_descend_66 ic_0 ?_
        refine r_istore (L' := [(8, .int (0 : Int32)), (7, .int v5), (0, rX X 9), (1, .int a0), (2, .long a1), (4, .long a2), (6, .int a3)]) (pc := 67) hX dX6_descend_67 (by decide) rfl ?_
        have hl69 : ∀ n : Nat, ∀ (v6 : Int32) (m7 : Me), J X oV (fx (lb_Search_descend_69 a0 a1 a2 a3 rec v5) (fun _ _ => none) n v6 m7) m7 69 [(0, rX X 9), (1, .int a0), (2, .long a1), (4, .long a2), (6, .int a3), (7, .int v5), (8, .int v6)] [] := by
          refine fx_ind (fun (f : Int32 → Me → Option Me) => ∀ (v6 : Int32) (m7 : Me), J X oV (f v6 m7) m7 69 [(0, rX X 9), (1, .int a0), (2, .long a1), (4, .long a2), (6, .int a3), (7, .int v5), (8, .int v6)] []) (fun _ _ => r_none) ?_
          intro s69 hs69 v6 m7
          unfold lb_Search_descend_69
          refine r_iload (pc := 69) hX 6 dX6_descend_69 rfl ?_
          refine r_bipush (pc := 71) hX dX6_descend_71 bp_17 ?_
          refine r_icmp_ge (tgt := 172) (pc := 73) hX dX6_descend_73 (by decide) ?_ ?_
          · skip
            exact r_vret (pc := 172) hX hE dX6_descend_172
          · skip
            refine r_aload_n (pc := 76) hX 0 dX6_descend_76 rfl rfl ?_
            refine r_getI (pc := 77) hX dX6_descend_77 fp6_57 k9 (by decide) ?_
            refine r_aload_n (pc := 80) hX 0 dX6_descend_80 rfl rfl ?_
            refine r_getI (pc := 81) hX dX6_descend_81 fp6_61 k9 (by decide) ?_
            refine r_icmp_ge (tgt := 172) (pc := 84) hX dX6_descend_84 (by decide) ?_ ?_
            · skip
              exact r_vret (pc := 172) hX hE dX6_descend_172
            · skip
              refine r_iload_n (pc := 87) hX 1 dX6_descend_87 rfl rfl ?_
              refine r_bipush (pc := 88) hX dX6_descend_88 bp_17 ?_
              refine r_imul (pc := 90) hX dX6_descend_90 ?_
              refine r_iload (pc := 91) hX 6 dX6_descend_91 rfl ?_
              refine r_iadd (pc := 93) hX dX6_descend_93 ?_
              refine r_nmI (fun v8 => ?_)
              refine r_istore (L' := [(9, .int v8), (0, rX X 9), (1, .int a0), (2, .long a1), (4, .long a2), (6, .int a3), (7, .int v5), (8, .int v6)]) (pc := 94) hX dX6_descend_94 (by decide) rfl ?_
              refine r_iload (pc := 96) hX 6 dX6_descend_96 rfl ?_
              refine r_iload (pc := 98) hX 7 dX6_descend_98 rfl ?_
              refine r_ishr (pc := 100) hX dX6_descend_100 ?_
              refine r_iconst (pc := 101) hX dX6_descend_101 ic_1 ?_
              refine r_iand (pc := 102) hX dX6_descend_102 ?_
              refine r_iconst (pc := 103) hX dX6_descend_103 ic_1 ?_
              refine r_join (P := fun k => ∀ (m9 : Me), J X oV (k m9) m9 166 [(0, rX X 9), (1, .int a0), (2, .long a1), (4, .long a2), (6, .int a3), (7, .int v5), (8, .int v6)] []) ?_ ?_
              · intro m9
                refine r_iincN (L' := fun w => [(8, .int w), (0, rX X 9), (1, .int a0), (2, .long a1), (4, .long a2), (6, .int a3), (7, .int v5)]) (pc := 166) hX 6 dX6_descend_166 rfl rfl (by decide) (fun _ => rfl) (fun v10 => ?_)
                refine r_goto (tgt := 69) (pc := 169) hX dX6_descend_169 (by decide) ?_
                exact r_sub [1, 2, 3, 4, 5, 6, 0] rfl (hs69 v10 m9)
              intro k166_ hk166_
              refine r_icmp_ne (tgt := 166) (pc := 104) hX dX6_descend_104 (by decide) ?_ ?_
              · skip
                exact r_sub [1, 2, 3, 4, 5, 6, 7] rfl (hk166_ m7)
              · skip
                refine r_aload_n (pc := 107) hX 1 dX6_descend_107 rfl rfl ?_
                refine r_iload_n (pc := 108) hX 2 dX6_descend_108 rfl rfl ?_
                refine r_iload (pc := 109) hX 7 dX6_descend_109 rfl ?_
                refine r_iload (pc := 111) hX 6 dX6_descend_111 rfl ?_
                refine r_lload_n (pc := 113) hX 3 dX6_descend_113 rfl rfl ?_
                refine r_lload (pc := 114) hX 4 dX6_descend_114 rfl ?_
                refine r_cvP (st := []) (pc := 116) hX dX6_descend_116 MI_Search_isBeaten MV_Search_isBeaten lkX6_129 k9 (c_Search_isBeaten a0 v6 v5 a1 a2 m7) rfl rfl (Nat.le_of_ble_eq_true rfl) (by omega) (fun v11 => ?_)
                refine r_if_ne (tgt := 166) (pc := 119) hX dX6_descend_119 (by decide) ?_ ?_
                · skip
                  exact r_sub [1, 2, 3, 4, 5, 6, 7] rfl (hk166_ m7)
                · skip
                  refine r_aload_n (pc := 122) hX 1 dX6_descend_122 rfl rfl ?_
                  refine r_iload_n (pc := 123) hX 2 dX6_descend_123 rfl rfl ?_
                  refine r_iconst (pc := 124) hX dX6_descend_124 ic_1 ?_
                  refine r_iadd (pc := 125) hX dX6_descend_125 ?_
                  refine r_lload_n (pc := 126) hX 3 dX6_descend_126 rfl rfl ?_
                  refine r_aload_n (pc := 127) hX 1 dX6_descend_127 rfl rfl ?_
                  refine r_getR (pc := 128) hX dX6_descend_128 fp6_22 k9 rfl g9_3 ?_
                  refine r_iload (pc := 131) hX 0 dX6_descend_131 rfl ?_
                  refine r_lald (pc := 133) hX dX6_descend_133 k103 (fun v12 => ?_)
                  refine r_ldc2 (pc := 134) hX dX6_descend_134 cnX6_89 ?_
                  refine r_lxor (pc := 137) hX dX6_descend_137 ?_
                  refine r_land (pc := 138) hX dX6_descend_138 ?_
                  refine r_lload (pc := 139) hX 4 dX6_descend_139 rfl ?_
                  refine r_aload_n (pc := 141) hX 1 dX6_descend_141 rfl rfl ?_
                  refine r_getR (pc := 142) hX dX6_descend_142 fp6_26 k9 rfl g9_4 ?_
                  refine r_iload (pc := 145) hX 0 dX6_descend_145 rfl ?_
                  refine r_lald (pc := 147) hX dX6_descend_147 k104 (fun v13 => ?_)
                  refine r_ldc2 (pc := 148) hX dX6_descend_148 cnX6_89 ?_
                  refine r_lxor (pc := 151) hX dX6_descend_151 ?_
                  refine r_land (pc := 152) hX dX6_descend_152 ?_
                  refine r_iload (pc := 153) hX 5 dX6_descend_153 rfl ?_
                  refine r_aload_n (pc := 155) hX 1 dX6_descend_155 rfl rfl ?_
                  refine r_getR (pc := 156) hX dX6_descend_156 fp6_19 k9 rfl g9_2 ?_
                  refine r_iload (pc := 159) hX 0 dX6_descend_159 rfl ?_
                  refine r_iald (pc := 161) hX dX6_descend_161 k102 (fun v14 => ?_)
                  refine r_iadd (pc := 162) hX dX6_descend_162 ?_
                  refine r_cvV (st := []) (pc := 163) hX dX6_descend_163 MI_Search_descend MV_Search_descend lkX6_64 k9 (ih (a0 + (1 : Int32)) (a1 &&& (v12 ^^^ (-1 : Int64))) (a2 &&& (v13 ^^^ (-1 : Int64))) (a3 + v14) m7) rfl rfl (Nat.le_of_ble_eq_true rfl) (by omega) (fun m15 => ?_)
                  exact r_sub [1, 2, 3, 4, 5, 6, 7] rfl (hk166_ m15)
        exact r_sub [2, 3, 4, 5, 6, 1, 0] rfl (hl69 FU (0 : Int32) m)
      intro k63_ hk63_
      refine r_if_eq (tgt := 61) (pc := 54) hX dX6_descend_54 (by decide) ?_ ?_
      · skip
        refine r_ldc (pc := 61) hX dX6_descend_61 cnX6_128 ?_
        exact hk63_ (65536 : Int32)
      · skip
        refine r_iconst (pc := 57) hX dX6_descend_57 ic_0 ?_
        refine r_goto (tgt := 63) (pc := 58) hX dX6_descend_58 (by decide) ?_
        exact hk63_ (0 : Int32)
    · skip
      exact r_vret (pc := 40) hX hE dX6_descend_40
  · skip
    refine r_aload_n (pc := 8) hX 0 dX6_descend_8 rfl rfl ?_
    refine r_aload_n (pc := 9) hX 0 dX6_descend_9 rfl rfl ?_
    refine r_getI (pc := 10) hX dX6_descend_10 fp6_57 k9 (by decide) ?_
    refine r_iload (pc := 13) hX 4 dX6_descend_13 rfl ?_
    refine r_mmax (st := [rX X 9]) (pc := 15) hX dX6_descend_15 lkM6_120 (Nat.le_of_ble_eq_true rfl) (by omega) ?_
    refine r_putI (pc := 18) hX dX6_descend_18 fp6_57 k9 (fun m16 => ?_)
    exact r_vret (pc := 21) hX hE dX6_descend_21
def f_Search_mostWorth  (m : Me) : Option (Int32 × Me) := bd (si m 9 8 (-1 : Int32)) (fun m1 => bd (si m1 9 9 (1000000000 : Int32)) (fun m2 => cP (f_Search_descend 30 (0 : Int32) (m2.2 9 6) (m2.2 9 7) (0 : Int32) m2) (fun m3 => some ((m3.1 9 8), m3))))
set_option maxHeartbeats 4000000 in
set_option maxRecDepth 100000 in
theorem c_Search_mostWorth   (m : Me) (r : Int32) (m' : Me) (h : f_Search_mostWorth  m = some (r, m')) : Ct yX6_mostWorth cX6_mostWorth 1 (some .int) 34 (fun ad => [.ref (ad 9)]) m (fun ad => (some (.int r), m')) := by
  refine mk_ct (F := f_Search_mostWorth  m) (fun _ => oI) (r, m') h (fun _ => rfl) (by decide) (fun _ => Nat.le_of_ble_eq_true rfl) ?_
  intro X hX hE
  show J X oI (f_Search_mostWorth  m) m 0 [(0, rX X 9)] []
  unfold f_Search_mostWorth
  refine r_aload_n (pc := 0) hX 0 dX6_mostWorth_0 rfl rfl ?_
  refine r_iconst (pc := 1) hX dX6_mostWorth_1 ic_m1 ?_
  refine r_putI (pc := 2) hX dX6_mostWorth_2 fp6_57 k9 (fun m1 => ?_)
  refine r_aload_n (pc := 5) hX 0 dX6_mostWorth_5 rfl rfl ?_
  refine r_ldc (pc := 6) hX dX6_mostWorth_6 cnX6_60 ?_
  refine r_putI (pc := 8) hX dX6_mostWorth_8 fp6_61 k9 (fun m2 => ?_)
  refine r_aload_n (pc := 11) hX 0 dX6_mostWorth_11 rfl rfl ?_
  refine r_iconst (pc := 12) hX dX6_mostWorth_12 ic_0 ?_
  refine r_aload_n (pc := 13) hX 0 dX6_mostWorth_13 rfl rfl ?_
  refine r_getL (pc := 14) hX dX6_mostWorth_14 fp6_46 k9 rfl ?_
  refine r_aload_n (pc := 17) hX 0 dX6_mostWorth_17 rfl rfl ?_
  refine r_getL (pc := 18) hX dX6_mostWorth_18 fp6_50 k9 rfl ?_
  refine r_iconst (pc := 21) hX dX6_mostWorth_21 ic_0 ?_
  refine r_cvV (st := []) (pc := 22) hX dX6_mostWorth_22 MI_Search_descend MV_Search_descend lkX6_64 k9 (c_Search_descend 30 (0 : Int32) (m2.2 9 6) (m2.2 9 7) (0 : Int32) m2) rfl rfl (Nat.le_of_ble_eq_true rfl) (by decide) (fun m3 => ?_)
  refine r_aload_n (pc := 25) hX 0 dX6_mostWorth_25 rfl rfl ?_
  refine r_getI (pc := 26) hX dX6_mostWorth_26 fp6_57 k9 (by decide) ?_
  exact r_iretI (pc := 29) hX hE dX6_mostWorth_29
def f_Search_fixIfReaching (a0 : Int32) (a1 : Int32) (a2 : Int32) (m : Me) : Option (Int32 × Me) := bd ((((a0 * (17 : Int32))) + a1)) (fun v1 => rd (ln 103) v1 (m.2 103) (fun v2 => cP (f_Search_inFront a0 ((1 : Int32) <<< (a1 &&& 31)) m) (fun v3 => bd ((((m.2 9 6) &&& (v2 ^^^ (-1 : Int64))) ||| v3)) (fun v4 => rd (ln 104) v1 (m.2 104) (fun v5 => cP (f_Search_inBack a0 ((1 : Int32) <<< (a1 &&& 31)) m) (fun v6 => bd ((((m.2 9 7) &&& (v5 ^^^ (-1 : Int64))) ||| v6)) (fun v7 => bd (si m 9 8 (a2 - (1 : Int32))) (fun m8 => bd (si m8 9 9 a2) (fun m9 => cP (f_Search_descend 30 (0 : Int32) v4 v7 (0 : Int32) m9) (fun m10 => if a2 ≤ (m10.1 9 8) then bd (sl m10 9 6 v4) (fun m11 => bd (sl m11 9 7 v7) (fun m12 => some ((1 : Int32), m12))) else some ((0 : Int32), m10)))))))))))
set_option maxHeartbeats 4000000 in
set_option maxRecDepth 100000 in
theorem c_Search_fixIfReaching (a0 : Int32) (a1 : Int32) (a2 : Int32)  (m : Me) (r : Int32) (m' : Me) (h : f_Search_fixIfReaching a0 a1 a2 m = some (r, m')) : Ct yX6_fixIfReaching cX6_fixIfReaching 9 (some .boolean) 34 (fun ad => [.ref (ad 9), .int a0, .int a1, .int a2]) m (fun ad => (some (.int r), m')) := by
  refine mk_ct (F := f_Search_fixIfReaching a0 a1 a2 m) (fun _ => oI) (r, m') h (fun _ => rfl) (by decide) (fun _ => Nat.le_of_ble_eq_true rfl) ?_
  intro X hX hE
  show J X oI (f_Search_fixIfReaching a0 a1 a2 m) m 0 [(0, rX X 9), (1, .int a0), (2, .int a1), (3, .int a2)] []
  unfold f_Search_fixIfReaching
  refine r_iload_n (pc := 0) hX 1 dX6_fixIfReaching_0 rfl rfl ?_
  refine r_bipush (pc := 1) hX dX6_fixIfReaching_1 bp_17 ?_
  refine r_imul (pc := 3) hX dX6_fixIfReaching_3 ?_
  refine r_iload_n (pc := 4) hX 2 dX6_fixIfReaching_4 rfl rfl ?_
  refine r_iadd (pc := 5) hX dX6_fixIfReaching_5 ?_
  refine r_nmI (fun v1 => ?_)
  refine r_istore (L' := [(4, .int v1), (0, rX X 9), (1, .int a0), (2, .int a1), (3, .int a2)]) (pc := 6) hX dX6_fixIfReaching_6 (by decide) rfl ?_
  refine r_aload_n (pc := 8) hX 1 dX6_fixIfReaching_8 rfl rfl ?_
  refine r_getL (pc := 9) hX dX6_fixIfReaching_9 fp6_46 k9 rfl ?_
  refine r_aload_n (pc := 12) hX 1 dX6_fixIfReaching_12 rfl rfl ?_
  refine r_getR (pc := 13) hX dX6_fixIfReaching_13 fp6_22 k9 rfl g9_3 ?_
  refine r_iload (pc := 16) hX 0 dX6_fixIfReaching_16 rfl ?_
  refine r_lald (pc := 18) hX dX6_fixIfReaching_18 k103 (fun v2 => ?_)
  refine r_ldc2 (pc := 19) hX dX6_fixIfReaching_19 cnX6_89 ?_
  refine r_lxor (pc := 22) hX dX6_fixIfReaching_22 ?_
  refine r_land (pc := 23) hX dX6_fixIfReaching_23 ?_
  refine r_iload_n (pc := 24) hX 2 dX6_fixIfReaching_24 rfl rfl ?_
  refine r_iconst (pc := 25) hX dX6_fixIfReaching_25 ic_1 ?_
  refine r_iload_n (pc := 26) hX 3 dX6_fixIfReaching_26 rfl rfl ?_
  refine r_ishl (pc := 27) hX dX6_fixIfReaching_27 ?_
  refine r_csL (st := [.long ((m.2 9 6) &&& (v2 ^^^ (-1 : Int64)))]) (pc := 28) hX dX6_fixIfReaching_28 MI_Search_inFront MS_Search_inFront lkX6_85 (c_Search_inFront a0 ((1 : Int32) <<< (a1 &&& 31)) m) rfl rfl (Nat.le_of_ble_eq_true rfl) (by decide) (fun v3 => ?_)
  refine r_lor (pc := 31) hX dX6_fixIfReaching_31 ?_
  refine r_nmL (fun v4 => ?_)
  refine r_lstore (L' := [(5, .long v4), (4, .int v1), (0, rX X 9), (1, .int a0), (2, .int a1), (3, .int a2)]) (pc := 32) hX dX6_fixIfReaching_32 (by decide) rfl ?_
  refine r_aload_n (pc := 34) hX 2 dX6_fixIfReaching_34 rfl rfl ?_
  refine r_getL (pc := 35) hX dX6_fixIfReaching_35 fp6_50 k9 rfl ?_
  refine r_aload_n (pc := 38) hX 2 dX6_fixIfReaching_38 rfl rfl ?_
  refine r_getR (pc := 39) hX dX6_fixIfReaching_39 fp6_26 k9 rfl g9_4 ?_
  refine r_iload (pc := 42) hX 1 dX6_fixIfReaching_42 rfl ?_
  refine r_lald (pc := 44) hX dX6_fixIfReaching_44 k104 (fun v5 => ?_)
  refine r_ldc2 (pc := 45) hX dX6_fixIfReaching_45 cnX6_89 ?_
  refine r_lxor (pc := 48) hX dX6_fixIfReaching_48 ?_
  refine r_land (pc := 49) hX dX6_fixIfReaching_49 ?_
  refine r_iload_n (pc := 50) hX 3 dX6_fixIfReaching_50 rfl rfl ?_
  refine r_iconst (pc := 51) hX dX6_fixIfReaching_51 ic_1 ?_
  refine r_iload_n (pc := 52) hX 4 dX6_fixIfReaching_52 rfl rfl ?_
  refine r_ishl (pc := 53) hX dX6_fixIfReaching_53 ?_
  refine r_csL (st := [.long ((m.2 9 7) &&& (v5 ^^^ (-1 : Int64)))]) (pc := 54) hX dX6_fixIfReaching_54 MI_Search_inBack MS_Search_inBack lkX6_91 (c_Search_inBack a0 ((1 : Int32) <<< (a1 &&& 31)) m) rfl rfl (Nat.le_of_ble_eq_true rfl) (by decide) (fun v6 => ?_)
  refine r_lor (pc := 57) hX dX6_fixIfReaching_57 ?_
  refine r_nmL (fun v7 => ?_)
  refine r_lstore (L' := [(7, .long v7), (5, .long v4), (4, .int v1), (0, rX X 9), (1, .int a0), (2, .int a1), (3, .int a2)]) (pc := 58) hX dX6_fixIfReaching_58 (by decide) rfl ?_
  refine r_aload_n (pc := 60) hX 3 dX6_fixIfReaching_60 rfl rfl ?_
  refine r_iload_n (pc := 61) hX 6 dX6_fixIfReaching_61 rfl rfl ?_
  refine r_iconst (pc := 62) hX dX6_fixIfReaching_62 ic_1 ?_
  refine r_isub (pc := 63) hX dX6_fixIfReaching_63 ?_
  refine r_putI (pc := 64) hX dX6_fixIfReaching_64 fp6_57 k9 (fun m8 => ?_)
  refine r_aload_n (pc := 67) hX 3 dX6_fixIfReaching_67 rfl rfl ?_
  refine r_iload_n (pc := 68) hX 6 dX6_fixIfReaching_68 rfl rfl ?_
  refine r_putI (pc := 69) hX dX6_fixIfReaching_69 fp6_61 k9 (fun m9 => ?_)
  refine r_aload_n (pc := 72) hX 3 dX6_fixIfReaching_72 rfl rfl ?_
  refine r_iconst (pc := 73) hX dX6_fixIfReaching_73 ic_0 ?_
  refine r_lload (pc := 74) hX 1 dX6_fixIfReaching_74 rfl ?_
  refine r_lload (pc := 76) hX 0 dX6_fixIfReaching_76 rfl ?_
  refine r_iconst (pc := 78) hX dX6_fixIfReaching_78 ic_0 ?_
  refine r_cvV (st := []) (pc := 79) hX dX6_fixIfReaching_79 MI_Search_descend MV_Search_descend lkX6_64 k9 (c_Search_descend 30 (0 : Int32) v4 v7 (0 : Int32) m9) rfl rfl (Nat.le_of_ble_eq_true rfl) (by decide) (fun m10 => ?_)
  refine r_aload_n (pc := 82) hX 3 dX6_fixIfReaching_82 rfl rfl ?_
  refine r_getI (pc := 83) hX dX6_fixIfReaching_83 fp6_57 k9 (by decide) ?_
  refine r_iload_n (pc := 86) hX 6 dX6_fixIfReaching_86 rfl rfl ?_
  refine r_icmp_ge (tgt := 92) (pc := 87) hX dX6_fixIfReaching_87 (by decide) ?_ ?_
  · skip
    refine r_aload_n (pc := 92) hX 3 dX6_fixIfReaching_92 rfl rfl ?_
    refine r_lload (pc := 93) hX 1 dX6_fixIfReaching_93 rfl ?_
    refine r_putL (pc := 95) hX dX6_fixIfReaching_95 fp6_46 k9 (fun m11 => ?_)
    refine r_aload_n (pc := 98) hX 3 dX6_fixIfReaching_98 rfl rfl ?_
    refine r_lload (pc := 99) hX 0 dX6_fixIfReaching_99 rfl ?_
    refine r_putL (pc := 101) hX dX6_fixIfReaching_101 fp6_50 k9 (fun m12 => ?_)
    refine r_iconst (pc := 104) hX dX6_fixIfReaching_104 ic_1 ?_
    exact r_zretIk (pc := 105) hX hE dX6_fixIfReaching_105 (by decide)
  · skip
    refine r_iconst (pc := 90) hX dX6_fixIfReaching_90 ic_0 ?_
    exact r_zretIk (pc := 91) hX hE dX6_fixIfReaching_91 (by decide)
def lb_Search_firstReaching_17 (a1 : Int32) (a2 : Int32) (v1 : Int32) (k69_ : Me → Option (Int32 × Me)) (s17 : Int32 → Me → Option (Int32 × Me)) (v7 : Int32) (m8 : Me) : Option (Int32 × Me) := if (16 : Int32) ≤ v7 then (k69_ m8) else rd (ln 100) a1 (m8.1 100) (fun v9 => cP (f_Chart_rankOf v9 v7 m8) (fun v10 => bd (fun (m11 : Me) => bd (v7 + 1) (fun v12 => (s17 v12 m11))) (fun k63_ => if (((v1 >>> (v10 &&& 31))) &&& (1 : Int32)) = (1 : Int32) then cI (f_Search_fixIfReaching a1 v10 a2 m8) (fun v13 m14 => if v13 = 0 then (k63_ m14) else some (v7, m14)) else (k63_ m8))))
def f_Search_firstReaching (a1 : Int32) (a2 : Int32) (m : Me) : Option (Int32 × Me) := cP (f_Search_bitsOf a1 (m.2 9 6) (m.2 9 7) m) (fun v1 => bd (fun (m2 : Me) => cP (f_Search_inFront a1 (65535 : Int32) m2) (fun v3 => bd (sl m2 9 6 ((m2.2 9 6) &&& (v3 ^^^ (-1 : Int64)))) (fun m4 => cP (f_Search_inBack a1 (65535 : Int32) m4) (fun v5 => bd (sl m4 9 7 ((m4.2 9 7) &&& (v5 ^^^ (-1 : Int64)))) (fun m6 => some ((-1 : Int32), m6)))))) (fun k69_ => ((fx (lb_Search_firstReaching_17 a1 a2 v1 k69_) (fun _ _ => none) FU) (0 : Int32) m)))
set_option maxHeartbeats 4000000 in
set_option maxRecDepth 100000 in
theorem c_Search_firstReaching (a1 : Int32) (a2 : Int32)  (m : Me) (r : Int32) (m' : Me) (h : f_Search_firstReaching a1 a2 m = some (r, m')) : Ct yX6_firstReaching cX6_firstReaching 7 (some .int) 35 (fun ad => [.ref (ad 9), .ref (ad 10), .int a1, .int a2]) m (fun ad => (some (.int r), m')) := by
  refine mk_ct (F := f_Search_firstReaching a1 a2 m) (fun _ => oI) (r, m') h (fun _ => rfl) (by decide) (fun _ => Nat.le_of_ble_eq_true rfl) ?_
  intro X hX hE
  show J X oI (f_Search_firstReaching a1 a2 m) m 0 [(0, rX X 9), (1, rX X 10), (2, .int a1), (3, .int a2)] []
  unfold f_Search_firstReaching
  refine r_iload_n (pc := 0) hX 2 dX6_firstReaching_0 rfl rfl ?_
  refine r_aload_n (pc := 1) hX 0 dX6_firstReaching_1 rfl rfl ?_
  refine r_getL (pc := 2) hX dX6_firstReaching_2 fp6_46 k9 rfl ?_
  refine r_aload_n (pc := 5) hX 0 dX6_firstReaching_5 rfl rfl ?_
  refine r_getL (pc := 6) hX dX6_firstReaching_6 fp6_50 k9 rfl ?_
  refine r_csP (st := []) (pc := 9) hX dX6_firstReaching_9 MI_Search_bitsOf MS_Search_bitsOf lkX6_72 (c_Search_bitsOf a1 (m.2 9 6) (m.2 9 7) m) rfl rfl (Nat.le_of_ble_eq_true rfl) (by decide) (fun v1 => ?_)
  refine r_istore (L' := [(4, .int v1), (0, rX X 9), (1, rX X 10), (2, .int a1), (3, .int a2)]) (pc := 12) hX dX6_firstReaching_12 (by decide) rfl ?_
  refine r_iconst (pc := 14) hX dX6_firstReaching_14 ic_0 ?_
  refine r_istore (L' := [(5, .int (0 : Int32)), (4, .int v1), (0, rX X 9), (1, rX X 10), (2, .int a1), (3, .int a2)]) (pc := 15) hX dX6_firstReaching_15 (by decide) rfl ?_
  refine r_join (P := fun k => ∀ (m2 : Me), J X oI (k m2) m2 69 [(0, rX X 9), (2, .int a1)] []) ?_ ?_
  · intro m2
    refine r_aload_n (pc := 69) hX 0 dX6_firstReaching_69 rfl rfl ?_
    refine r_dup (pc := 70) hX dX6_firstReaching_70 rfl ?_
    refine r_getL (pc := 71) hX dX6_firstReaching_71 fp6_46 k9 rfl ?_
    refine r_iload_n (pc := 74) hX 1 dX6_firstReaching_74 rfl rfl ?_
    refine r_ldc (pc := 75) hX dX6_firstReaching_75 cnX6_84 ?_
    refine r_csL (st := [.long (m2.2 9 6), rX X 9]) (pc := 77) hX dX6_firstReaching_77 MI_Search_inFront MS_Search_inFront lkX6_85 (c_Search_inFront a1 (65535 : Int32) m2) rfl rfl (Nat.le_of_ble_eq_true rfl) (by decide) (fun v3 => ?_)
    refine r_ldc2 (pc := 80) hX dX6_firstReaching_80 cnX6_89 ?_
    refine r_lxor (pc := 83) hX dX6_firstReaching_83 ?_
    refine r_land (pc := 84) hX dX6_firstReaching_84 ?_
    refine r_putL (pc := 85) hX dX6_firstReaching_85 fp6_46 k9 (fun m4 => ?_)
    refine r_aload_n (pc := 88) hX 0 dX6_firstReaching_88 rfl rfl ?_
    refine r_dup (pc := 89) hX dX6_firstReaching_89 rfl ?_
    refine r_getL (pc := 90) hX dX6_firstReaching_90 fp6_50 k9 rfl ?_
    refine r_iload_n (pc := 93) hX 1 dX6_firstReaching_93 rfl rfl ?_
    refine r_ldc (pc := 94) hX dX6_firstReaching_94 cnX6_84 ?_
    refine r_csL (st := [.long (m4.2 9 7), rX X 9]) (pc := 96) hX dX6_firstReaching_96 MI_Search_inBack MS_Search_inBack lkX6_91 (c_Search_inBack a1 (65535 : Int32) m4) rfl rfl (Nat.le_of_ble_eq_true rfl) (by decide) (fun v5 => ?_)
    refine r_ldc2 (pc := 99) hX dX6_firstReaching_99 cnX6_89 ?_
    refine r_lxor (pc := 102) hX dX6_firstReaching_102 ?_
    refine r_land (pc := 103) hX dX6_firstReaching_103 ?_
    refine r_putL (pc := 104) hX dX6_firstReaching_104 fp6_50 k9 (fun m6 => ?_)
    refine r_iconst (pc := 107) hX dX6_firstReaching_107 ic_m1 ?_
    exact r_iretI (pc := 108) hX hE dX6_firstReaching_108
  intro k69_ hk69_
  have hl17 : ∀ n : Nat, ∀ (v7 : Int32) (m8 : Me), J X oI (fx (lb_Search_firstReaching_17 a1 a2 v1 k69_) (fun _ _ => none) n v7 m8) m8 17 [(0, rX X 9), (1, rX X 10), (2, .int a1), (3, .int a2), (4, .int v1), (5, .int v7)] [] := by
    refine fx_ind (fun (f : Int32 → Me → Option (Int32 × Me)) => ∀ (v7 : Int32) (m8 : Me), J X oI (f v7 m8) m8 17 [(0, rX X 9), (1, rX X 10), (2, .int a1), (3, .int a2), (4, .int v1), (5, .int v7)] []) (fun _ _ => r_none) ?_
    intro s17 hs17 v7 m8
    unfold lb_Search_firstReaching_17
    refine r_iload (pc := 17) hX 5 dX6_firstReaching_17 rfl ?_
    refine r_bipush (pc := 19) hX dX6_firstReaching_19 bp_16 ?_
    refine r_icmp_ge (tgt := 69) (pc := 21) hX dX6_firstReaching_21 (by decide) ?_ ?_
    · skip
      exact r_sub [0, 2] rfl (hk69_ m8)
    · skip
      refine r_aload_n (pc := 24) hX 1 dX6_firstReaching_24 rfl rfl ?_
      refine r_aload_n (pc := 25) hX 0 dX6_firstReaching_25 rfl rfl ?_
      refine r_getR (pc := 26) hX dX6_firstReaching_26 fp6_9 k9 rfl g9_0 ?_
      refine r_iload_n (pc := 29) hX 2 dX6_firstReaching_29 rfl rfl ?_
      refine r_iald (pc := 30) hX dX6_firstReaching_30 k100 (fun v9 => ?_)
      refine r_iload (pc := 31) hX 5 dX6_firstReaching_31 rfl ?_
      refine r_cvP (st := []) (pc := 33) hX dX6_firstReaching_33 MI_Chart_rankOf MV_Chart_rankOf lkX6_76 k10 (c_Chart_rankOf v9 v7 m8) rfl rfl (Nat.le_of_ble_eq_true rfl) (by decide) (fun v10 => ?_)
      refine r_istore (L' := [(6, .int v10), (0, rX X 9), (1, rX X 10), (2, .int a1), (3, .int a2), (4, .int v1), (5, .int v7)]) (pc := 36) hX dX6_firstReaching_36 (by decide) rfl ?_
      refine r_iload (pc := 38) hX 5 dX6_firstReaching_38 rfl ?_
      refine r_iload (pc := 40) hX 0 dX6_firstReaching_40 rfl ?_
      refine r_ishr (pc := 42) hX dX6_firstReaching_42 ?_
      refine r_iconst (pc := 43) hX dX6_firstReaching_43 ic_1 ?_
      refine r_iand (pc := 44) hX dX6_firstReaching_44 ?_
      refine r_iconst (pc := 45) hX dX6_firstReaching_45 ic_1 ?_
      refine r_join (P := fun k => ∀ (m11 : Me), J X oI (k m11) m11 63 [(0, rX X 9), (1, rX X 10), (2, .int a1), (3, .int a2), (4, .int v1), (5, .int v7)] []) ?_ ?_
      · intro m11
        refine r_iincN (L' := fun w => [(5, .int w), (0, rX X 9), (1, rX X 10), (2, .int a1), (3, .int a2), (4, .int v1)]) (pc := 63) hX 5 dX6_firstReaching_63 rfl rfl (by decide) (fun _ => rfl) (fun v12 => ?_)
        refine r_goto (tgt := 17) (pc := 66) hX dX6_firstReaching_66 (by decide) ?_
        exact r_sub [1, 2, 3, 4, 5, 0] rfl (hs17 v12 m11)
      intro k63_ hk63_
      refine r_icmp_ne (tgt := 63) (pc := 46) hX dX6_firstReaching_46 (by decide) ?_ ?_
      · skip
        exact r_sub [1, 2, 3, 4, 5, 6] rfl (hk63_ m8)
      · skip
        refine r_aload_n (pc := 49) hX 1 dX6_firstReaching_49 rfl rfl ?_
        refine r_iload_n (pc := 50) hX 3 dX6_firstReaching_50 rfl rfl ?_
        refine r_iload (pc := 51) hX 0 dX6_firstReaching_51 rfl ?_
        refine r_iload_n (pc := 53) hX 4 dX6_firstReaching_53 rfl rfl ?_
        refine r_cvI (st := []) (pc := 54) hX dX6_firstReaching_54 MI_Search_fixIfReaching MV_Search_fixIfReaching lkX6_80 k9 (c_Search_fixIfReaching a1 v10 a2 m8) rfl rfl (Nat.le_of_ble_eq_true rfl) (by decide) (fun v13 m14 => ?_)
        refine r_if_eq (tgt := 63) (pc := 57) hX dX6_firstReaching_57 (by decide) ?_ ?_
        · skip
          exact r_sub [1, 2, 3, 4, 5, 6] rfl (hk63_ m14)
        · skip
          refine r_iload (pc := 60) hX 6 dX6_firstReaching_60 rfl ?_
          exact r_iretI (pc := 62) hX hE dX6_firstReaching_62
  exact r_sub [2, 3, 4, 5, 1, 0] rfl (hl17 FU (0 : Int32) m)
def lb_Search_pickFirst_15 (a1 : Int32) (a2 : Nat) (v1 : Int32) (k54_ : Me → Option Me) (s15 : Int32 → Me → Option Me) (v5 : Int32) (m6 : Me) : Option Me := if (m6.1 9 5) ≤ v5 then (k54_ m6) else rd (ln 100) v5 (m6.1 100) (fun v7 => bd (fun (m8 : Me) => bd (v5 + 1) (fun v9 => (s15 v9 m8))) (fun k48_ => if v7 = v1 then cI (f_Search_firstReaching v5 a1 m6) (fun v10 m11 => wi m11 a2 (ln a2) v1 v10 (fun m12 => (k48_ m12))) else (k48_ m6)))
def lb_Search_pickFirst_3 (a1 : Int32) (a2 : Nat) (s3 : Int32 → Me → Option Me) (v1 : Int32) (m2 : Me) : Option Me := if (m2.1 10 0) ≤ v1 then some m2 else bd (fun (m3 : Me) => bd (v1 + 1) (fun v4 => (s3 v4 m3))) (fun k54_ => ((fx (lb_Search_pickFirst_15 a1 a2 v1 k54_) (fun _ _ => none) FU) (0 : Int32) m2))
def f_Search_pickFirst (a1 : Int32) (a2 : Nat) (m : Me) : Option Me := ((fx (lb_Search_pickFirst_3 a1 a2) (fun _ _ => none) FU) (0 : Int32) m)
set_option maxHeartbeats 4000000 in
set_option maxRecDepth 100000 in
theorem c_Search_pickFirst (a1 : Int32) (a2 : Nat) (ha2 : kd a2 = 20) (m : Me) (r : Me) (h : f_Search_pickFirst a1 a2 m = some r) : Ct yX6_pickFirst cX6_pickFirst 6 none 36 (fun ad => [.ref (ad 9), .ref (ad 10), .int a1, .ref (ad a2)]) m (fun ad => (none, r)) := by
  refine mk_ct (F := f_Search_pickFirst a1 a2 m) (fun _ => oV) r h (fun _ => rfl) (by decide) (fun _ => Nat.le_of_ble_eq_true rfl) ?_
  intro X hX hE
  show J X oV (f_Search_pickFirst a1 a2 m) m 0 [(0, rX X 9), (1, rX X 10), (2, .int a1), (3, rX X a2)] []
  unfold f_Search_pickFirst
  refine r_iconst (pc := 0) hX dX6_pickFirst_0 ic_0 ?_
  refine r_istore (L' := [(4, .int (0 : Int32)), (0, rX X 9), (1, rX X 10), (2, .int a1), (3, rX X a2)]) (pc := 1) hX dX6_pickFirst_1 (by decide) rfl ?_
  have hl3 : ∀ n : Nat, ∀ (v1 : Int32) (m2 : Me), J X oV (fx (lb_Search_pickFirst_3 a1 a2) (fun _ _ => none) n v1 m2) m2 3 [(0, rX X 9), (1, rX X 10), (2, .int a1), (3, rX X a2), (4, .int v1)] [] := by
    refine fx_ind (fun (f : Int32 → Me → Option Me) => ∀ (v1 : Int32) (m2 : Me), J X oV (f v1 m2) m2 3 [(0, rX X 9), (1, rX X 10), (2, .int a1), (3, rX X a2), (4, .int v1)] []) (fun _ _ => r_none) ?_
    intro s3 hs3 v1 m2
    unfold lb_Search_pickFirst_3
    refine r_iload (pc := 3) hX 4 dX6_pickFirst_3 rfl ?_
    refine r_aload_n (pc := 5) hX 1 dX6_pickFirst_5 rfl rfl ?_
    refine r_getI (pc := 6) hX dX6_pickFirst_6 fp6_33 k10 (by decide) ?_
    refine r_icmp_ge (tgt := 60) (pc := 9) hX dX6_pickFirst_9 (by decide) ?_ ?_
    · skip
      exact r_vret (pc := 60) hX hE dX6_pickFirst_60
    · skip
      refine r_iconst (pc := 12) hX dX6_pickFirst_12 ic_0 ?_
      refine r_istore (L' := [(5, .int (0 : Int32)), (0, rX X 9), (1, rX X 10), (2, .int a1), (3, rX X a2), (4, .int v1)]) (pc := 13) hX dX6_pickFirst_13 (by decide) rfl ?_
      refine r_join (P := fun k => ∀ (m3 : Me), J X oV (k m3) m3 54 [(0, rX X 9), (1, rX X 10), (2, .int a1), (3, rX X a2), (4, .int v1)] []) ?_ ?_
      · intro m3
        refine r_iincN (L' := fun w => [(4, .int w), (0, rX X 9), (1, rX X 10), (2, .int a1), (3, rX X a2)]) (pc := 54) hX 4 dX6_pickFirst_54 rfl rfl (by decide) (fun _ => rfl) (fun v4 => ?_)
        refine r_goto (tgt := 3) (pc := 57) hX dX6_pickFirst_57 (by decide) ?_
        exact r_sub [1, 2, 3, 4, 0] rfl (hs3 v4 m3)
      intro k54_ hk54_
      have hl15 : ∀ n : Nat, ∀ (v5 : Int32) (m6 : Me), J X oV (fx (lb_Search_pickFirst_15 a1 a2 v1 k54_) (fun _ _ => none) n v5 m6) m6 15 [(0, rX X 9), (1, rX X 10), (2, .int a1), (3, rX X a2), (4, .int v1), (5, .int v5)] [] := by
        refine fx_ind (fun (f : Int32 → Me → Option Me) => ∀ (v5 : Int32) (m6 : Me), J X oV (f v5 m6) m6 15 [(0, rX X 9), (1, rX X 10), (2, .int a1), (3, rX X a2), (4, .int v1), (5, .int v5)] []) (fun _ _ => r_none) ?_
        intro s15 hs15 v5 m6
        unfold lb_Search_pickFirst_15
        refine r_iload (pc := 15) hX 5 dX6_pickFirst_15 rfl ?_
        refine r_aload_n (pc := 17) hX 0 dX6_pickFirst_17 rfl rfl ?_
        refine r_getI (pc := 18) hX dX6_pickFirst_18 fp6_29 k9 (by decide) ?_
        refine r_icmp_ge (tgt := 54) (pc := 21) hX dX6_pickFirst_21 (by decide) ?_ ?_
        · skip
          exact r_sub [0, 1, 2, 3, 4] rfl (hk54_ m6)
        · skip
          refine r_aload_n (pc := 24) hX 0 dX6_pickFirst_24 rfl rfl ?_
          refine r_getR (pc := 25) hX dX6_pickFirst_25 fp6_9 k9 rfl g9_0 ?_
          refine r_iload (pc := 28) hX 5 dX6_pickFirst_28 rfl ?_
          refine r_iald (pc := 30) hX dX6_pickFirst_30 k100 (fun v7 => ?_)
          refine r_iload (pc := 31) hX 4 dX6_pickFirst_31 rfl ?_
          refine r_join (P := fun k => ∀ (m8 : Me), J X oV (k m8) m8 48 [(0, rX X 9), (1, rX X 10), (2, .int a1), (3, rX X a2), (4, .int v1), (5, .int v5)] []) ?_ ?_
          · intro m8
            refine r_iincN (L' := fun w => [(5, .int w), (0, rX X 9), (1, rX X 10), (2, .int a1), (3, rX X a2), (4, .int v1)]) (pc := 48) hX 5 dX6_pickFirst_48 rfl rfl (by decide) (fun _ => rfl) (fun v9 => ?_)
            refine r_goto (tgt := 15) (pc := 51) hX dX6_pickFirst_51 (by decide) ?_
            exact r_sub [1, 2, 3, 4, 5, 0] rfl (hs15 v9 m8)
          intro k48_ hk48_
          refine r_icmp_ne (tgt := 48) (pc := 33) hX dX6_pickFirst_33 (by decide) ?_ ?_
          · skip
            exact hk48_ m6
          · skip
            refine r_aload_n (pc := 36) hX 3 dX6_pickFirst_36 rfl rfl ?_
            refine r_iload (pc := 37) hX 4 dX6_pickFirst_37 rfl ?_
            refine r_aload_n (pc := 39) hX 0 dX6_pickFirst_39 rfl rfl ?_
            refine r_aload_n (pc := 40) hX 1 dX6_pickFirst_40 rfl rfl ?_
            refine r_iload (pc := 41) hX 5 dX6_pickFirst_41 rfl ?_
            refine r_iload_n (pc := 43) hX 2 dX6_pickFirst_43 rfl rfl ?_
            refine r_cvI (st := [.int v1, rX X a2]) (pc := 44) hX dX6_pickFirst_44 MI_Search_firstReaching MV_Search_firstReaching lkX6_68 k9 (c_Search_firstReaching v5 a1 m6) rfl rfl (Nat.le_of_ble_eq_true rfl) (by decide) (fun v10 m11 => ?_)
            refine r_iast (pc := 47) hX dX6_pickFirst_47 ha2 (fun m12 => ?_)
            exact hk48_ m12
      exact r_sub [1, 2, 3, 4, 5, 0] rfl (hl15 FU (0 : Int32) m2)
  exact r_sub [1, 2, 3, 4, 0] rfl (hl3 FU (0 : Int32) m)
