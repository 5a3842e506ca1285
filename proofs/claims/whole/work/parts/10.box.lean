def f_Box_start (a0 : Int32) (a1 : Int32) (a2 : Int32) (a3 : Int32) (m : Me) : Option Int32 := if a1 = 0 then some (a0 - ((a2 / (2 : Int32)))) else if a1 ≤ 0 then some (((a0 - a3)) - a2) else some (a0 + a3)
set_option maxHeartbeats 4000000 in
set_option maxRecDepth 100000 in
theorem c_Box_start (a0 : Int32) (a1 : Int32) (a2 : Int32) (a3 : Int32)  (m : Me) (r : Int32) (h : f_Box_start a0 a1 a2 a3 m = some r) : Ct yX0_start cX0_start 4 (some .int) 0 (fun ad => [.int a0, .int a1, .int a2, .int a3]) m (fun ad => (some (.int r), m)) := by
  refine mk_ct (F := f_Box_start a0 a1 a2 a3 m) (fun _ => oP m) r h (fun _ => rfl) (by decide) (fun _ => Nat.le_of_ble_eq_true rfl) ?_
  intro X hX hE
  show J X (oP m) (f_Box_start a0 a1 a2 a3 m) m 0 [(0, .int a0), (1, .int a1), (2, .int a2), (3, .int a3)] []
  unfold f_Box_start
  refine r_iload_n (pc := 0) hX 1 dX0_start_0 rfl rfl ?_
  refine r_if_ne (tgt := 10) (pc := 1) hX dX0_start_1 (by decide) ?_ ?_
  · skip
    refine r_iload_n (pc := 10) hX 1 dX0_start_10 rfl rfl ?_
    refine r_if_le (tgt := 20) (pc := 11) hX dX0_start_11 (by decide) ?_ ?_
    · skip
      refine r_iload_n (pc := 20) hX 0 dX0_start_20 rfl rfl ?_
      refine r_iload_n (pc := 21) hX 3 dX0_start_21 rfl rfl ?_
      refine r_isub (pc := 22) hX dX0_start_22 ?_
      refine r_iload_n (pc := 23) hX 2 dX0_start_23 rfl rfl ?_
      refine r_isub (pc := 24) hX dX0_start_24 ?_
      exact r_iretP (pc := 25) hX hE dX0_start_25
    · skip
      refine r_iload_n (pc := 14) hX 0 dX0_start_14 rfl rfl ?_
      refine r_iload_n (pc := 15) hX 3 dX0_start_15 rfl rfl ?_
      refine r_iadd (pc := 16) hX dX0_start_16 ?_
      refine r_goto (tgt := 25) (pc := 17) hX dX0_start_17 (by decide) ?_
      exact r_iretP (pc := 25) hX hE dX0_start_25
  · skip
    refine r_iload_n (pc := 4) hX 0 dX0_start_4 rfl rfl ?_
    refine r_iload_n (pc := 5) hX 2 dX0_start_5 rfl rfl ?_
    refine r_iconst (pc := 6) hX dX0_start_6 ic_2 ?_
    refine r_idiv (pc := 7) hX dX0_start_7 (by decide) ?_
    refine r_isub (pc := 8) hX dX0_start_8 ?_
    exact r_iretP (pc := 9) hX hE dX0_start_9
def f_Box_lay (o : Nat) (a1 : Int32) (a2 : Int32) (a3 : Int32) (m : Me) : Option Me := bd (fun (v1 : Int32) => bd (fun (v2 : Int32) => bd (fun (v3 : Int32) => pz m o 4 v3 (fun m4 => bd (fun (v5 : Int32) => bd (fun (v6 : Int32) => bd (fun (v7 : Int32) => bd (fun (v8 : Int32) => rd (ln 12) a1 (m4.1 12) (fun v9 => bd ((v9 <<< (a3 &&& 31))) (fun v10 => rd (ln 13) a1 (m4.1 13) (fun v11 => bd ((v11 <<< (a3 &&& 31))) (fun v12 => rd (stl 0) v8 (stt 0) (fun v13 => cP (f_Box_start v10 v13 v5 v7 m4) (fun v14 => bd (si m4 o 0 v14) (fun m15 => rd (stl 1) v8 (stt 1) (fun v16 => cP (f_Box_start v12 v16 v6 v7 m15) (fun v17 => bd (si m15 o 1 v17) (fun m18 => bd (si m18 o 2 (((m18.1 o 0)) + v5)) (fun m19 => bd (si m19 o 3 (((m19.1 o 1)) + v6)) (fun m20 => bd (si m20 o 5 ((2 : Int32) * v10)) (fun m21 => bd (si m21 o 6 ((2 : Int32) * v12)) (fun m22 => bd (si m22 o 7 (((m22.1 o 0)) + ((m22.1 o 2)))) (fun m23 => bd (si m23 o 8 (((m23.1 o 1)) + ((m23.1 o 3)))) (fun m24 => some m24))))))))))))))))) (fun k132_ => if v1 = 0 then (k132_ a2) else (k132_ ((a2 - (8 : Int32)))))) (fun k117_ => if (m4.1 o 4) = 0 then (k117_ (2 : Int32)) else (k117_ (40 : Int32)))) (fun k102_ => if v2 = 0 then rd (ln 15) a1 (m4.1 15) (fun v25 => (k102_ v25)) else rd (ln 15) a1 (m4.1 15) (fun v26 => (k102_ (((2 : Int32) * v26)))))) (fun k78_ => if v2 = 0 then rd (ln 14) a1 (m4.1 14) (fun v27 => (k78_ v27)) else rd (ln 14) a1 (m4.1 14) (fun v28 => (k78_ ((((v28 + (1 : Int32))) / (2 : Int32)))))))) (fun k51_ => bd ((k51_ (0 : Int32))) (fun k50_ => if v1 = 0 then (k50_) else if v2 = 0 then (k51_ (1 : Int32)) else (k50_)))) (fun k33_ => bd ((k33_ (0 : Int32))) (fun k32_ => if v1 = 0 then (k32_) else rd (ln 11) a1 (m.1 11) (fun v29 => if v29 = (1 : Int32) then (k33_ (1 : Int32)) else (k32_))))) (fun k11_ => if a2 < (8 : Int32) then (k11_ (0 : Int32)) else (k11_ (1 : Int32)))
set_option maxHeartbeats 4000000 in
set_option maxRecDepth 100000 in
theorem c_Box_lay (o : Nat) (a1 : Int32) (a2 : Int32) (a3 : Int32) (ho : kd o = 0) (m : Me) (r : Me) (h : f_Box_lay o a1 a2 a3 m = some r) : Ct yX0_lay cX0_lay 13 none 1 (fun ad => [.ref (ad o), .ref (ad 10), .int a1, .int a2, .int a3]) m (fun ad => (none, r)) := by
  refine mk_ct (F := f_Box_lay o a1 a2 a3 m) (fun _ => oV) r h (fun _ => rfl) (by decide) (fun _ => Nat.le_of_ble_eq_true rfl) ?_
  intro X hX hE
  show J X oV (f_Box_lay o a1 a2 a3 m) m 0 [(0, rX X o), (1, rX X 10), (2, .int a1), (3, .int a2), (4, .int a3)] []
  unfold f_Box_lay
  refine r_iload_n (pc := 0) hX 3 dX0_lay_0 rfl rfl ?_
  refine r_bipush (pc := 1) hX dX0_lay_1 bp_8 ?_
  refine r_join (P := fun k => ∀ (v1 : Int32), J X oV (k v1) m 11 [(0, rX X o), (1, rX X 10), (2, .int a1), (3, .int a2), (4, .int a3)] [.int v1]) ?_ ?_
  · intro v1
    refine r_istore (L' := [(5, .int v1), (0, rX X o), (1, rX X 10), (2, .int a1), (3, .int a2), (4, .int a3)]) (pc := 11) hX dX0_lay_11 (by decide) rfl ?_
    refine r_iload (pc := 13) hX 0 dX0_lay_13 rfl ?_
    refine r_join (P := fun k => ∀ (v2 : Int32), J X oV (k v2) m 33 [(0, rX X o), (1, rX X 10), (2, .int a1), (3, .int a2), (4, .int a3), (5, .int v1)] [.int v2]) ?_ ?_
    · intro v2
      refine r_istore (L' := [(6, .int v2), (0, rX X o), (1, rX X 10), (2, .int a1), (3, .int a2), (4, .int a3), (5, .int v1)]) (pc := 33) hX dX0_lay_33 (by decide) rfl ?_
      refine r_aload_n (pc := 35) hX 1 dX0_lay_35 rfl rfl ?_
      refine r_iload (pc := 36) hX 6 dX0_lay_36 rfl ?_
      refine r_join (P := fun k => ∀ (v3 : Int32), J X oV (k v3) m 51 [(0, rX X o), (1, rX X 10), (2, .int a1), (3, .int a2), (4, .int a3), (5, .int v1), (6, .int v2)] [.int v3, rX X o]) ?_ ?_
      · intro v3
        refine r_putZ (pc := 51) hX dX0_lay_51 fp0_15 ho (fun m4 => ?_)
        refine r_iload (pc := 54) hX 6 dX0_lay_54 rfl ?_
        refine r_join (P := fun k => ∀ (v5 : Int32), J X oV (k v5) m4 78 [(0, rX X o), (1, rX X 10), (2, .int a1), (3, .int a2), (4, .int a3), (5, .int v1), (6, .int v2)] [.int v5]) ?_ ?_
        · intro v5
          refine r_istore (L' := [(7, .int v5), (0, rX X o), (1, rX X 10), (2, .int a1), (3, .int a2), (4, .int a3), (5, .int v1), (6, .int v2)]) (pc := 78) hX dX0_lay_78 (by decide) rfl ?_
          refine r_iload (pc := 80) hX 7 dX0_lay_80 rfl ?_
          refine r_join (P := fun k => ∀ (v6 : Int32), J X oV (k v6) m4 102 [(0, rX X o), (1, rX X 10), (2, .int a1), (3, .int a2), (4, .int a3), (5, .int v1), (7, .int v5)] [.int v6]) ?_ ?_
          · intro v6
            refine r_istore (L' := [(8, .int v6), (0, rX X o), (1, rX X 10), (2, .int a1), (3, .int a2), (4, .int a3), (5, .int v1), (7, .int v5)]) (pc := 102) hX dX0_lay_102 (by decide) rfl ?_
            refine r_aload_n (pc := 104) hX 1 dX0_lay_104 rfl rfl ?_
            refine r_getI (pc := 105) hX dX0_lay_105 fp0_15 ho (by decide) ?_
            refine r_join (P := fun k => ∀ (v7 : Int32), J X oV (k v7) m4 117 [(0, rX X o), (1, rX X 10), (2, .int a1), (3, .int a2), (4, .int a3), (5, .int v1), (7, .int v5), (8, .int v6)] [.int v7]) ?_ ?_
            · intro v7
              refine r_istore (L' := [(9, .int v7), (0, rX X o), (1, rX X 10), (2, .int a1), (3, .int a2), (4, .int a3), (5, .int v1), (7, .int v5), (8, .int v6)]) (pc := 117) hX dX0_lay_117 (by decide) rfl ?_
              refine r_iload (pc := 119) hX 6 dX0_lay_119 rfl ?_
              refine r_join (P := fun k => ∀ (v8 : Int32), J X oV (k v8) m4 132 [(0, rX X o), (1, rX X 10), (2, .int a1), (4, .int a3), (7, .int v5), (8, .int v6), (9, .int v7)] [.int v8]) ?_ ?_
              · intro v8
                refine r_istore (L' := [(10, .int v8), (0, rX X o), (1, rX X 10), (2, .int a1), (4, .int a3), (7, .int v5), (8, .int v6), (9, .int v7)]) (pc := 132) hX dX0_lay_132 (by decide) rfl ?_
                refine r_aload_n (pc := 134) hX 2 dX0_lay_134 rfl rfl ?_
                refine r_getR (pc := 135) hX dX0_lay_135 fp0_27 k10 rfl g10_3 ?_
                refine r_iload_n (pc := 138) hX 3 dX0_lay_138 rfl rfl ?_
                refine r_iald (pc := 139) hX dX0_lay_139 k12 (fun v9 => ?_)
                refine r_iload (pc := 140) hX 4 dX0_lay_140 rfl ?_
                refine r_ishl (pc := 142) hX dX0_lay_142 ?_
                refine r_nmI (fun v10 => ?_)
                refine r_istore (L' := [(11, .int v10), (10, .int v8), (0, rX X o), (1, rX X 10), (2, .int a1), (4, .int a3), (7, .int v5), (8, .int v6), (9, .int v7)]) (pc := 143) hX dX0_lay_143 (by decide) rfl ?_
                refine r_aload_n (pc := 145) hX 3 dX0_lay_145 rfl rfl ?_
                refine r_getR (pc := 146) hX dX0_lay_146 fp0_30 k10 rfl g10_4 ?_
                refine r_iload_n (pc := 149) hX 4 dX0_lay_149 rfl rfl ?_
                refine r_iald (pc := 150) hX dX0_lay_150 k13 (fun v11 => ?_)
                refine r_iload (pc := 151) hX 5 dX0_lay_151 rfl ?_
                refine r_ishl (pc := 153) hX dX0_lay_153 ?_
                refine r_nmI (fun v12 => ?_)
                refine r_istore (L' := [(12, .int v12), (11, .int v10), (10, .int v8), (0, rX X o), (1, rX X 10), (2, .int a1), (4, .int a3), (7, .int v5), (8, .int v6), (9, .int v7)]) (pc := 154) hX dX0_lay_154 (by decide) rfl ?_
                refine r_aload_n (pc := 156) hX 3 dX0_lay_156 rfl rfl ?_
                refine r_iload (pc := 157) hX 1 dX0_lay_157 rfl ?_
                refine r_gets (pc := 159) hX 0 (by decide) dX0_lay_159 rfl ?_
                refine r_iload (pc := 162) hX 2 dX0_lay_162 rfl ?_
                refine r_sald (pc := 164) hX 0 (by decide) dX0_lay_164 (fun v13 => ?_)
                refine r_iload (pc := 165) hX 7 dX0_lay_165 rfl ?_
                refine r_iload (pc := 167) hX 9 dX0_lay_167 rfl ?_
                refine r_csP (st := [rX X o]) (pc := 169) hX dX0_lay_169 MI_Box_start MS_Box_start lkX0_36 (c_Box_start v10 v13 v5 v7 m4) rfl rfl (Nat.le_of_ble_eq_true rfl) (by decide) (fun v14 => ?_)
                refine r_putI (pc := 172) hX dX0_lay_172 fp0_40 ho (fun m15 => ?_)
                refine r_aload_n (pc := 175) hX 3 dX0_lay_175 rfl rfl ?_
                refine r_iload (pc := 176) hX 0 dX0_lay_176 rfl ?_
                refine r_gets (pc := 178) hX 1 (by decide) dX0_lay_178 rfl ?_
                refine r_iload (pc := 181) hX 2 dX0_lay_181 rfl ?_
                refine r_sald (pc := 183) hX 1 (by decide) dX0_lay_183 (fun v16 => ?_)
                refine r_iload (pc := 184) hX 8 dX0_lay_184 rfl ?_
                refine r_iload (pc := 186) hX 9 dX0_lay_186 rfl ?_
                refine r_csP (st := [rX X o]) (pc := 188) hX dX0_lay_188 MI_Box_start MS_Box_start lkX0_36 (c_Box_start v12 v16 v6 v7 m15) rfl rfl (Nat.le_of_ble_eq_true rfl) (by decide) (fun v17 => ?_)
                refine r_putI (pc := 191) hX dX0_lay_191 fp0_47 ho (fun m18 => ?_)
                refine r_aload_n (pc := 194) hX 3 dX0_lay_194 rfl rfl ?_
                refine r_aload_n (pc := 195) hX 3 dX0_lay_195 rfl rfl ?_
                refine r_getI (pc := 196) hX dX0_lay_196 fp0_40 ho (by decide) ?_
                refine r_iload (pc := 199) hX 7 dX0_lay_199 rfl ?_
                refine r_iadd (pc := 201) hX dX0_lay_201 ?_
                refine r_putI (pc := 202) hX dX0_lay_202 fp0_50 ho (fun m19 => ?_)
                refine r_aload_n (pc := 205) hX 3 dX0_lay_205 rfl rfl ?_
                refine r_aload_n (pc := 206) hX 3 dX0_lay_206 rfl rfl ?_
                refine r_getI (pc := 207) hX dX0_lay_207 fp0_47 ho (by decide) ?_
                refine r_iload (pc := 210) hX 8 dX0_lay_210 rfl ?_
                refine r_iadd (pc := 212) hX dX0_lay_212 ?_
                refine r_putI (pc := 213) hX dX0_lay_213 fp0_53 ho (fun m20 => ?_)
                refine r_aload_n (pc := 216) hX 3 dX0_lay_216 rfl rfl ?_
                refine r_iconst (pc := 217) hX dX0_lay_217 ic_2 ?_
                refine r_iload (pc := 218) hX 1 dX0_lay_218 rfl ?_
                refine r_imul (pc := 220) hX dX0_lay_220 ?_
                refine r_putI (pc := 221) hX dX0_lay_221 fp0_56 ho (fun m21 => ?_)
                refine r_aload_n (pc := 224) hX 3 dX0_lay_224 rfl rfl ?_
                refine r_iconst (pc := 225) hX dX0_lay_225 ic_2 ?_
                refine r_iload (pc := 226) hX 0 dX0_lay_226 rfl ?_
                refine r_imul (pc := 228) hX dX0_lay_228 ?_
                refine r_putI (pc := 229) hX dX0_lay_229 fp0_59 ho (fun m22 => ?_)
                refine r_aload_n (pc := 232) hX 3 dX0_lay_232 rfl rfl ?_
                refine r_aload_n (pc := 233) hX 3 dX0_lay_233 rfl rfl ?_
                refine r_getI (pc := 234) hX dX0_lay_234 fp0_40 ho (by decide) ?_
                refine r_aload_n (pc := 237) hX 3 dX0_lay_237 rfl rfl ?_
                refine r_getI (pc := 238) hX dX0_lay_238 fp0_50 ho (by decide) ?_
                refine r_iadd (pc := 241) hX dX0_lay_241 ?_
                refine r_putI (pc := 242) hX dX0_lay_242 fp0_62 ho (fun m23 => ?_)
                refine r_aload_n (pc := 245) hX 3 dX0_lay_245 rfl rfl ?_
                refine r_aload_n (pc := 246) hX 3 dX0_lay_246 rfl rfl ?_
                refine r_getI (pc := 247) hX dX0_lay_247 fp0_47 ho (by decide) ?_
                refine r_aload_n (pc := 250) hX 3 dX0_lay_250 rfl rfl ?_
                refine r_getI (pc := 251) hX dX0_lay_251 fp0_53 ho (by decide) ?_
                refine r_iadd (pc := 254) hX dX0_lay_254 ?_
                refine r_putI (pc := 255) hX dX0_lay_255 fp0_65 ho (fun m24 => ?_)
                exact r_vret (pc := 258) hX hE dX0_lay_258
              intro k132_ hk132_
              refine r_if_eq (tgt := 131) (pc := 121) hX dX0_lay_121 (by decide) ?_ ?_
              · skip
                refine r_iload_n (pc := 131) hX 4 dX0_lay_131 rfl rfl ?_
                exact r_sub [1, 2, 3, 5, 7, 8, 0] rfl (hk132_ a2)
              · skip
                refine r_iload_n (pc := 124) hX 4 dX0_lay_124 rfl rfl ?_
                refine r_bipush (pc := 125) hX dX0_lay_125 bp_8 ?_
                refine r_isub (pc := 127) hX dX0_lay_127 ?_
                refine r_goto (tgt := 132) (pc := 128) hX dX0_lay_128 (by decide) ?_
                exact r_sub [1, 2, 3, 5, 7, 8, 0] rfl (hk132_ ((a2 - (8 : Int32))))
            intro k117_ hk117_
            refine r_if_eq (tgt := 116) (pc := 108) hX dX0_lay_108 (by decide) ?_ ?_
            · skip
              refine r_iconst (pc := 116) hX dX0_lay_116 ic_2 ?_
              exact r_sub [1, 2, 3, 4, 5, 6, 7, 0] rfl (hk117_ (2 : Int32))
            · skip
              refine r_bipush (pc := 111) hX dX0_lay_111 bp_40 ?_
              refine r_goto (tgt := 117) (pc := 113) hX dX0_lay_113 (by decide) ?_
              exact r_sub [1, 2, 3, 4, 5, 6, 7, 0] rfl (hk117_ (40 : Int32))
          intro k102_ hk102_
          refine r_if_eq (tgt := 96) (pc := 82) hX dX0_lay_82 (by decide) ?_ ?_
          · skip
            refine r_aload_n (pc := 96) hX 2 dX0_lay_96 rfl rfl ?_
            refine r_getR (pc := 97) hX dX0_lay_97 fp0_24 k10 rfl g10_6 ?_
            refine r_iload_n (pc := 100) hX 3 dX0_lay_100 rfl rfl ?_
            refine r_iald (pc := 101) hX dX0_lay_101 k15 (fun v25 => ?_)
            exact r_sub [1, 2, 3, 4, 5, 6, 0] rfl (hk102_ v25)
          · skip
            refine r_iconst (pc := 85) hX dX0_lay_85 ic_2 ?_
            refine r_aload_n (pc := 86) hX 2 dX0_lay_86 rfl rfl ?_
            refine r_getR (pc := 87) hX dX0_lay_87 fp0_24 k10 rfl g10_6 ?_
            refine r_iload_n (pc := 90) hX 3 dX0_lay_90 rfl rfl ?_
            refine r_iald (pc := 91) hX dX0_lay_91 k15 (fun v26 => ?_)
            refine r_imul (pc := 92) hX dX0_lay_92 ?_
            refine r_goto (tgt := 102) (pc := 93) hX dX0_lay_93 (by decide) ?_
            exact r_sub [1, 2, 3, 4, 5, 6, 0] rfl (hk102_ (((2 : Int32) * v26)))
        intro k78_ hk78_
        refine r_if_eq (tgt := 72) (pc := 56) hX dX0_lay_56 (by decide) ?_ ?_
        · skip
          refine r_aload_n (pc := 72) hX 1 dX0_lay_72 rfl rfl ?_
          refine r_getR (pc := 73) hX dX0_lay_73 fp0_21 k10 rfl g10_5 ?_
          refine r_iload_n (pc := 76) hX 2 dX0_lay_76 rfl rfl ?_
          refine r_iald (pc := 77) hX dX0_lay_77 k14 (fun v27 => ?_)
          exact hk78_ v27
        · skip
          refine r_aload_n (pc := 59) hX 1 dX0_lay_59 rfl rfl ?_
          refine r_getR (pc := 60) hX dX0_lay_60 fp0_21 k10 rfl g10_5 ?_
          refine r_iload_n (pc := 63) hX 2 dX0_lay_63 rfl rfl ?_
          refine r_iald (pc := 64) hX dX0_lay_64 k14 (fun v28 => ?_)
          refine r_iconst (pc := 65) hX dX0_lay_65 ic_1 ?_
          refine r_iadd (pc := 66) hX dX0_lay_66 ?_
          refine r_iconst (pc := 67) hX dX0_lay_67 ic_2 ?_
          refine r_idiv (pc := 68) hX dX0_lay_68 (by decide) ?_
          refine r_goto (tgt := 78) (pc := 69) hX dX0_lay_69 (by decide) ?_
          exact hk78_ ((((v28 + (1 : Int32))) / (2 : Int32)))
      intro k51_ hk51_
      refine r_join (P := fun k => J X oV (k) m 50 [(0, rX X o), (1, rX X 10), (2, .int a1), (3, .int a2), (4, .int a3), (5, .int v1), (6, .int v2)] [rX X o]) ?_ ?_
      · skip
        refine r_iconst (pc := 50) hX dX0_lay_50 ic_0 ?_
        exact hk51_ (0 : Int32)
      intro k50_ hk50_
      refine r_if_eq (tgt := 50) (pc := 38) hX dX0_lay_38 (by decide) ?_ ?_
      · skip
        exact r_sub [1, 2, 3, 4, 5, 6, 0] rfl (hk50_)
      · skip
        refine r_iload (pc := 41) hX 0 dX0_lay_41 rfl ?_
        refine r_if_ne (tgt := 50) (pc := 43) hX dX0_lay_43 (by decide) ?_ ?_
        · skip
          exact r_sub [1, 2, 3, 4, 5, 6, 0] rfl (hk50_)
        · skip
          refine r_iconst (pc := 46) hX dX0_lay_46 ic_1 ?_
          refine r_goto (tgt := 51) (pc := 47) hX dX0_lay_47 (by decide) ?_
          exact r_sub [1, 2, 3, 4, 5, 6, 0] rfl (hk51_ (1 : Int32))
    intro k33_ hk33_
    refine r_join (P := fun k => J X oV (k) m 32 [(0, rX X o), (1, rX X 10), (2, .int a1), (3, .int a2), (4, .int a3), (5, .int v1)] []) ?_ ?_
    · skip
      refine r_iconst (pc := 32) hX dX0_lay_32 ic_0 ?_
      exact hk33_ (0 : Int32)
    intro k32_ hk32_
    refine r_if_eq (tgt := 32) (pc := 15) hX dX0_lay_15 (by decide) ?_ ?_
    · skip
      exact r_sub [1, 2, 3, 4, 5, 0] rfl (hk32_)
    · skip
      refine r_aload_n (pc := 18) hX 2 dX0_lay_18 rfl rfl ?_
      refine r_getR (pc := 19) hX dX0_lay_19 fp0_9 k10 rfl g10_2 ?_
      refine r_iload_n (pc := 22) hX 3 dX0_lay_22 rfl rfl ?_
      refine r_iald (pc := 23) hX dX0_lay_23 k11 (fun v29 => ?_)
      refine r_iconst (pc := 24) hX dX0_lay_24 ic_1 ?_
      refine r_icmp_ne (tgt := 32) (pc := 25) hX dX0_lay_25 (by decide) ?_ ?_
      · skip
        exact r_sub [1, 2, 3, 4, 5, 0] rfl (hk32_)
      · skip
        refine r_iconst (pc := 28) hX dX0_lay_28 ic_1 ?_
        refine r_goto (tgt := 33) (pc := 29) hX dX0_lay_29 (by decide) ?_
        exact r_sub [1, 2, 3, 4, 5, 0] rfl (hk33_ (1 : Int32))
  intro k11_ hk11_
  refine r_icmp_lt (tgt := 10) (pc := 3) hX dX0_lay_3 (by decide) ?_ ?_
  · skip
    refine r_iconst (pc := 10) hX dX0_lay_10 ic_0 ?_
    exact hk11_ (0 : Int32)
  · skip
    refine r_iconst (pc := 6) hX dX0_lay_6 ic_1 ?_
    refine r_goto (tgt := 11) (pc := 7) hX dX0_lay_7 (by decide) ?_
    exact hk11_ (1 : Int32)
def f_Box_covers (o : Nat) (a0 : Int32) (a1 : Int32) (m : Me) : Option Int32 := if a0 ≤ (m.1 o 0) then some (0 : Int32) else if (m.1 o 2) ≤ a0 then some (0 : Int32) else if a1 ≤ (m.1 o 1) then some (0 : Int32) else if (m.1 o 3) ≤ a1 then some (0 : Int32) else some (1 : Int32)
set_option maxHeartbeats 4000000 in
set_option maxRecDepth 100000 in
theorem c_Box_covers (o : Nat) (a0 : Int32) (a1 : Int32) (ho : kd o = 0) (m : Me) (r : Int32) (h : f_Box_covers o a0 a1 m = some r) : Ct yX0_covers cX0_covers 3 (some .boolean) 0 (fun ad => [.ref (ad o), .int a0, .int a1]) m (fun ad => (some (.int r), m)) := by
  refine mk_ct (F := f_Box_covers o a0 a1 m) (fun _ => oP m) r h (fun _ => rfl) (by decide) (fun _ => Nat.le_of_ble_eq_true rfl) ?_
  intro X hX hE
  show J X (oP m) (f_Box_covers o a0 a1 m) m 0 [(0, rX X o), (1, .int a0), (2, .int a1)] []
  unfold f_Box_covers
  refine r_aload_n (pc := 0) hX 0 dX0_covers_0 rfl rfl ?_
  refine r_getI (pc := 1) hX dX0_covers_1 fp0_40 ho (by decide) ?_
  refine r_iload_n (pc := 4) hX 1 dX0_covers_4 rfl rfl ?_
  refine r_icmp_ge (tgt := 36) (pc := 5) hX dX0_covers_5 (by decide) ?_ ?_
  · skip
    refine r_iconst (pc := 36) hX dX0_covers_36 ic_0 ?_
    exact r_zretPk (pc := 37) hX hE dX0_covers_37 (by decide)
  · skip
    refine r_iload_n (pc := 8) hX 1 dX0_covers_8 rfl rfl ?_
    refine r_aload_n (pc := 9) hX 0 dX0_covers_9 rfl rfl ?_
    refine r_getI (pc := 10) hX dX0_covers_10 fp0_50 ho (by decide) ?_
    refine r_icmp_ge (tgt := 36) (pc := 13) hX dX0_covers_13 (by decide) ?_ ?_
    · skip
      refine r_iconst (pc := 36) hX dX0_covers_36 ic_0 ?_
      exact r_zretPk (pc := 37) hX hE dX0_covers_37 (by decide)
    · skip
      refine r_aload_n (pc := 16) hX 0 dX0_covers_16 rfl rfl ?_
      refine r_getI (pc := 17) hX dX0_covers_17 fp0_47 ho (by decide) ?_
      refine r_iload_n (pc := 20) hX 2 dX0_covers_20 rfl rfl ?_
      refine r_icmp_ge (tgt := 36) (pc := 21) hX dX0_covers_21 (by decide) ?_ ?_
      · skip
        refine r_iconst (pc := 36) hX dX0_covers_36 ic_0 ?_
        exact r_zretPk (pc := 37) hX hE dX0_covers_37 (by decide)
      · skip
        refine r_iload_n (pc := 24) hX 2 dX0_covers_24 rfl rfl ?_
        refine r_aload_n (pc := 25) hX 0 dX0_covers_25 rfl rfl ?_
        refine r_getI (pc := 26) hX dX0_covers_26 fp0_53 ho (by decide) ?_
        refine r_icmp_ge (tgt := 36) (pc := 29) hX dX0_covers_29 (by decide) ?_ ?_
        · skip
          refine r_iconst (pc := 36) hX dX0_covers_36 ic_0 ?_
          exact r_zretPk (pc := 37) hX hE dX0_covers_37 (by decide)
        · skip
          refine r_iconst (pc := 32) hX dX0_covers_32 ic_1 ?_
          refine r_goto (tgt := 37) (pc := 33) hX dX0_covers_33 (by decide) ?_
          exact r_zretPk (pc := 37) hX hE dX0_covers_37 (by decide)
def f_Box_overlaps (o : Nat) (a0 : Int32) (a1 : Int32) (a2 : Int32) (a3 : Int32) (m : Me) : Option Int32 := if a2 ≤ (m.1 o 0) then some (0 : Int32) else if (m.1 o 2) ≤ a0 then some (0 : Int32) else if a3 ≤ (m.1 o 1) then some (0 : Int32) else if (m.1 o 3) ≤ a1 then some (0 : Int32) else some (1 : Int32)
set_option maxHeartbeats 4000000 in
set_option maxRecDepth 100000 in
theorem c_Box_overlaps (o : Nat) (a0 : Int32) (a1 : Int32) (a2 : Int32) (a3 : Int32) (ho : kd o = 0) (m : Me) (r : Int32) (h : f_Box_overlaps o a0 a1 a2 a3 m = some r) : Ct yX0_overlaps cX0_overlaps 5 (some .boolean) 0 (fun ad => [.ref (ad o), .int a0, .int a1, .int a2, .int a3]) m (fun ad => (some (.int r), m)) := by
  refine mk_ct (F := f_Box_overlaps o a0 a1 a2 a3 m) (fun _ => oP m) r h (fun _ => rfl) (by decide) (fun _ => Nat.le_of_ble_eq_true rfl) ?_
  intro X hX hE
  show J X (oP m) (f_Box_overlaps o a0 a1 a2 a3 m) m 0 [(0, rX X o), (1, .int a0), (2, .int a1), (3, .int a2), (4, .int a3)] []
  unfold f_Box_overlaps
  refine r_aload_n (pc := 0) hX 0 dX0_overlaps_0 rfl rfl ?_
  refine r_getI (pc := 1) hX dX0_overlaps_1 fp0_40 ho (by decide) ?_
  refine r_iload_n (pc := 4) hX 3 dX0_overlaps_4 rfl rfl ?_
  refine r_icmp_ge (tgt := 37) (pc := 5) hX dX0_overlaps_5 (by decide) ?_ ?_
  · skip
    refine r_iconst (pc := 37) hX dX0_overlaps_37 ic_0 ?_
    exact r_zretPk (pc := 38) hX hE dX0_overlaps_38 (by decide)
  · skip
    refine r_iload_n (pc := 8) hX 1 dX0_overlaps_8 rfl rfl ?_
    refine r_aload_n (pc := 9) hX 0 dX0_overlaps_9 rfl rfl ?_
    refine r_getI (pc := 10) hX dX0_overlaps_10 fp0_50 ho (by decide) ?_
    refine r_icmp_ge (tgt := 37) (pc := 13) hX dX0_overlaps_13 (by decide) ?_ ?_
    · skip
      refine r_iconst (pc := 37) hX dX0_overlaps_37 ic_0 ?_
      exact r_zretPk (pc := 38) hX hE dX0_overlaps_38 (by decide)
    · skip
      refine r_aload_n (pc := 16) hX 0 dX0_overlaps_16 rfl rfl ?_
      refine r_getI (pc := 17) hX dX0_overlaps_17 fp0_47 ho (by decide) ?_
      refine r_iload (pc := 20) hX 4 dX0_overlaps_20 rfl ?_
      refine r_icmp_ge (tgt := 37) (pc := 22) hX dX0_overlaps_22 (by decide) ?_ ?_
      · skip
        refine r_iconst (pc := 37) hX dX0_overlaps_37 ic_0 ?_
        exact r_zretPk (pc := 38) hX hE dX0_overlaps_38 (by decide)
      · skip
        refine r_iload_n (pc := 25) hX 2 dX0_overlaps_25 rfl rfl ?_
        refine r_aload_n (pc := 26) hX 0 dX0_overlaps_26 rfl rfl ?_
        refine r_getI (pc := 27) hX dX0_overlaps_27 fp0_53 ho (by decide) ?_
        refine r_icmp_ge (tgt := 37) (pc := 30) hX dX0_overlaps_30 (by decide) ?_ ?_
        · skip
          refine r_iconst (pc := 37) hX dX0_overlaps_37 ic_0 ?_
          exact r_zretPk (pc := 38) hX hE dX0_overlaps_38 (by decide)
        · skip
          refine r_iconst (pc := 33) hX dX0_overlaps_33 ic_1 ?_
          refine r_goto (tgt := 38) (pc := 34) hX dX0_overlaps_34 (by decide) ?_
          exact r_zretPk (pc := 38) hX hE dX0_overlaps_38 (by decide)
def lb_Box_coversAny_3 (o : Nat) (a0 : Nat) (a1 : Nat) (a2 : Int32) (a3 : Int32) (m : Me) (s3 : Int32 → Option Int32) (v1 : Int32) : Option Int32 := if a2 ≤ v1 then some (0 : Int32) else rd (ln a0) v1 (m.1 a0) (fun v2 => rd (ln a1) v1 (m.1 a1) (fun v3 => cP (f_Box_covers o (v2 <<< (a3 &&& 31)) (v3 <<< (a3 &&& 31)) m) (fun v4 => if v4 = 0 then bd (v1 + 1) (fun v5 => (s3 v5)) else some (1 : Int32))))
def f_Box_coversAny (o : Nat) (a0 : Nat) (a1 : Nat) (a2 : Int32) (a3 : Int32) (m : Me) : Option Int32 := ((fx (lb_Box_coversAny_3 o a0 a1 a2 a3 m) (fun _ => none) FU) (0 : Int32))
set_option maxHeartbeats 4000000 in
set_option maxRecDepth 100000 in
theorem c_Box_coversAny (o : Nat) (a0 : Nat) (a1 : Nat) (a2 : Int32) (a3 : Int32) (ho : kd o = 0) (ha0 : kd a0 = 20) (ha1 : kd a1 = 20) (m : Me) (r : Int32) (h : f_Box_coversAny o a0 a1 a2 a3 m = some r) : Ct yX0_coversAny cX0_coversAny 6 (some .boolean) 1 (fun ad => [.ref (ad o), .ref (ad a0), .ref (ad a1), .int a2, .int a3]) m (fun ad => (some (.int r), m)) := by
  refine mk_ct (F := f_Box_coversAny o a0 a1 a2 a3 m) (fun _ => oP m) r h (fun _ => rfl) (by decide) (fun _ => Nat.le_of_ble_eq_true rfl) ?_
  intro X hX hE
  show J X (oP m) (f_Box_coversAny o a0 a1 a2 a3 m) m 0 [(0, rX X o), (1, rX X a0), (2, rX X a1), (3, .int a2), (4, .int a3)] []
  unfold f_Box_coversAny
  refine r_iconst (pc := 0) hX dX0_coversAny_0 ic_0 ?_
  refine r_istore (L' := [(5, .int (0 : Int32)), (0, rX X o), (1, rX X a0), (2, rX X a1), (3, .int a2), (4, .int a3)]) (pc := 1) hX dX0_coversAny_1 (by decide) rfl ?_
  have hl3 : ∀ n : Nat, ∀ (v1 : Int32), J X (oP m) (fx (lb_Box_coversAny_3 o a0 a1 a2 a3 m) (fun _ => none) n v1) m 3 [(0, rX X o), (1, rX X a0), (2, rX X a1), (3, .int a2), (4, .int a3), (5, .int v1)] [] := by
    refine fx_ind (fun (f : Int32 → Option Int32) => ∀ (v1 : Int32), J X (oP m) (f v1) m 3 [(0, rX X o), (1, rX X a0), (2, rX X a1), (3, .int a2), (4, .int a3), (5, .int v1)] []) (fun _ => r_none) ?_
    intro s3 hs3 v1
    unfold lb_Box_coversAny_3
    refine r_iload (pc := 3) hX 5 dX0_coversAny_3 rfl ?_
    refine r_iload_n (pc := 5) hX 3 dX0_coversAny_5 rfl rfl ?_
    refine r_icmp_ge (tgt := 38) (pc := 6) hX dX0_coversAny_6 (by decide) ?_ ?_
    · skip
      refine r_iconst (pc := 38) hX dX0_coversAny_38 ic_0 ?_
      exact r_zretPk (pc := 39) hX hE dX0_coversAny_39 (by decide)
    · skip
      refine r_aload_n (pc := 9) hX 0 dX0_coversAny_9 rfl rfl ?_
      refine r_aload_n (pc := 10) hX 1 dX0_coversAny_10 rfl rfl ?_
      refine r_iload (pc := 11) hX 5 dX0_coversAny_11 rfl ?_
      refine r_iald (pc := 13) hX dX0_coversAny_13 ha0 (fun v2 => ?_)
      refine r_iload (pc := 14) hX 4 dX0_coversAny_14 rfl ?_
      refine r_ishl (pc := 16) hX dX0_coversAny_16 ?_
      refine r_aload_n (pc := 17) hX 2 dX0_coversAny_17 rfl rfl ?_
      refine r_iload (pc := 18) hX 5 dX0_coversAny_18 rfl ?_
      refine r_iald (pc := 20) hX dX0_coversAny_20 ha1 (fun v3 => ?_)
      refine r_iload (pc := 21) hX 4 dX0_coversAny_21 rfl ?_
      refine r_ishl (pc := 23) hX dX0_coversAny_23 ?_
      refine r_cvP (st := []) (pc := 24) hX dX0_coversAny_24 MI_Box_covers MV_Box_covers lkX0_84 ho (c_Box_covers o (v2 <<< (a3 &&& 31)) (v3 <<< (a3 &&& 31)) ho m) rfl rfl (Nat.le_of_ble_eq_true rfl) (by decide) (fun v4 => ?_)
      refine r_if_eq (tgt := 32) (pc := 27) hX dX0_coversAny_27 (by decide) ?_ ?_
      · skip
        refine r_iincN (L' := fun w => [(5, .int w), (0, rX X o), (1, rX X a0), (2, rX X a1), (3, .int a2), (4, .int a3)]) (pc := 32) hX 5 dX0_coversAny_32 rfl rfl (by decide) (fun _ => rfl) (fun v5 => ?_)
        refine r_goto (tgt := 3) (pc := 35) hX dX0_coversAny_35 (by decide) ?_
        exact r_sub [1, 2, 3, 4, 5, 0] rfl (hs3 v5)
      · skip
        refine r_iconst (pc := 30) hX dX0_coversAny_30 ic_1 ?_
        exact r_zretPk (pc := 31) hX hE dX0_coversAny_31 (by decide)
  exact r_sub [1, 2, 3, 4, 5, 0] rfl (hl3 FU (0 : Int32))
def f_Box_isOpen (o : Nat) (a1 : Int32) (m : Me) : Option Int32 := bd (((1000 : Int32) <<< (a1 &&& 31))) (fun v1 => if (m.1 o 0) < 0 then some (0 : Int32) else if (m.1 o 1) < 0 then some (0 : Int32) else if v1 < (m.1 o 2) then some (0 : Int32) else if (m.1 o 3) ≤ v1 then cP (f_Box_coversAny o 18 19 (m.1 10 1) a1 m) (fun v2 => if v2 = 0 then cP (f_Box_coversAny o 12 13 (m.1 10 0) a1 m) (fun v3 => if v3 = 0 then some (1 : Int32) else some (0 : Int32)) else some (0 : Int32)) else some (0 : Int32))
set_option maxHeartbeats 4000000 in
set_option maxRecDepth 100000 in
theorem c_Box_isOpen (o : Nat) (a1 : Int32) (ho : kd o = 0) (m : Me) (r : Int32) (h : f_Box_isOpen o a1 m = some r) : Ct yX0_isOpen cX0_isOpen 4 (some .boolean) 2 (fun ad => [.ref (ad o), .ref (ad 10), .int a1]) m (fun ad => (some (.int r), m)) := by
  refine mk_ct (F := f_Box_isOpen o a1 m) (fun _ => oP m) r h (fun _ => rfl) (by decide) (fun _ => Nat.le_of_ble_eq_true rfl) ?_
  intro X hX hE
  show J X (oP m) (f_Box_isOpen o a1 m) m 0 [(0, rX X o), (1, rX X 10), (2, .int a1)] []
  unfold f_Box_isOpen
  refine r_sipush (pc := 0) hX dX0_isOpen_0 sp_1000 ?_
  refine r_iload_n (pc := 3) hX 2 dX0_isOpen_3 rfl rfl ?_
  refine r_ishl (pc := 4) hX dX0_isOpen_4 ?_
  refine r_nmI (fun v1 => ?_)
  refine r_istore_n (L' := [(3, .int v1), (0, rX X o), (1, rX X 10), (2, .int a1)]) (pc := 5) hX dX0_isOpen_5 rfl (by decide) rfl ?_
  refine r_aload_n (pc := 6) hX 1 dX0_isOpen_6 rfl rfl ?_
  refine r_getI (pc := 7) hX dX0_isOpen_7 fp0_40 ho (by decide) ?_
  refine r_if_lt (tgt := 36) (pc := 10) hX dX0_isOpen_10 (by decide) ?_ ?_
  · skip
    refine r_iconst (pc := 36) hX dX0_isOpen_36 ic_0 ?_
    exact r_zretPk (pc := 37) hX hE dX0_isOpen_37 (by decide)
  · skip
    refine r_aload_n (pc := 13) hX 1 dX0_isOpen_13 rfl rfl ?_
    refine r_getI (pc := 14) hX dX0_isOpen_14 fp0_47 ho (by decide) ?_
    refine r_if_lt (tgt := 36) (pc := 17) hX dX0_isOpen_17 (by decide) ?_ ?_
    · skip
      refine r_iconst (pc := 36) hX dX0_isOpen_36 ic_0 ?_
      exact r_zretPk (pc := 37) hX hE dX0_isOpen_37 (by decide)
    · skip
      refine r_aload_n (pc := 20) hX 1 dX0_isOpen_20 rfl rfl ?_
      refine r_getI (pc := 21) hX dX0_isOpen_21 fp0_50 ho (by decide) ?_
      refine r_iload_n (pc := 24) hX 0 dX0_isOpen_24 rfl rfl ?_
      refine r_icmp_gt (tgt := 36) (pc := 25) hX dX0_isOpen_25 (by decide) ?_ ?_
      · skip
        refine r_iconst (pc := 36) hX dX0_isOpen_36 ic_0 ?_
        exact r_zretPk (pc := 37) hX hE dX0_isOpen_37 (by decide)
      · skip
        refine r_aload_n (pc := 28) hX 1 dX0_isOpen_28 rfl rfl ?_
        refine r_getI (pc := 29) hX dX0_isOpen_29 fp0_53 ho (by decide) ?_
        refine r_iload_n (pc := 32) hX 0 dX0_isOpen_32 rfl rfl ?_
        refine r_icmp_le (tgt := 38) (pc := 33) hX dX0_isOpen_33 (by decide) ?_ ?_
        · skip
          refine r_aload_n (pc := 38) hX 1 dX0_isOpen_38 rfl rfl ?_
          refine r_aload_n (pc := 39) hX 2 dX0_isOpen_39 rfl rfl ?_
          refine r_getR (pc := 40) hX dX0_isOpen_40 fp0_68 k10 rfl g10_9 ?_
          refine r_aload_n (pc := 43) hX 2 dX0_isOpen_43 rfl rfl ?_
          refine r_getR (pc := 44) hX dX0_isOpen_44 fp0_71 k10 rfl g10_10 ?_
          refine r_aload_n (pc := 47) hX 2 dX0_isOpen_47 rfl rfl ?_
          refine r_getI (pc := 48) hX dX0_isOpen_48 fp0_74 k10 (by decide) ?_
          refine r_iload_n (pc := 51) hX 3 dX0_isOpen_51 rfl rfl ?_
          refine r_cvP (st := []) (pc := 52) hX dX0_isOpen_52 MI_Box_coversAny MV_Box_coversAny lkX0_77 ho (c_Box_coversAny o 18 19 (m.1 10 1) a1 ho k18 k19 m) rfl rfl (Nat.le_of_ble_eq_true rfl) (by decide) (fun v2 => ?_)
          refine r_if_ne (tgt := 82) (pc := 55) hX dX0_isOpen_55 (by decide) ?_ ?_
          · skip
            refine r_iconst (pc := 82) hX dX0_isOpen_82 ic_0 ?_
            exact r_zretPk (pc := 83) hX hE dX0_isOpen_83 (by decide)
          · skip
            refine r_aload_n (pc := 58) hX 1 dX0_isOpen_58 rfl rfl ?_
            refine r_aload_n (pc := 59) hX 2 dX0_isOpen_59 rfl rfl ?_
            refine r_getR (pc := 60) hX dX0_isOpen_60 fp0_27 k10 rfl g10_3 ?_
            refine r_aload_n (pc := 63) hX 2 dX0_isOpen_63 rfl rfl ?_
            refine r_getR (pc := 64) hX dX0_isOpen_64 fp0_30 k10 rfl g10_4 ?_
            refine r_aload_n (pc := 67) hX 2 dX0_isOpen_67 rfl rfl ?_
            refine r_getI (pc := 68) hX dX0_isOpen_68 fp0_81 k10 (by decide) ?_
            refine r_iload_n (pc := 71) hX 3 dX0_isOpen_71 rfl rfl ?_
            refine r_cvP (st := []) (pc := 72) hX dX0_isOpen_72 MI_Box_coversAny MV_Box_coversAny lkX0_77 ho (c_Box_coversAny o 12 13 (m.1 10 0) a1 ho k12 k13 m) rfl rfl (Nat.le_of_ble_eq_true rfl) (by decide) (fun v3 => ?_)
            refine r_if_ne (tgt := 82) (pc := 75) hX dX0_isOpen_75 (by decide) ?_ ?_
            · skip
              refine r_iconst (pc := 82) hX dX0_isOpen_82 ic_0 ?_
              exact r_zretPk (pc := 83) hX hE dX0_isOpen_83 (by decide)
            · skip
              refine r_iconst (pc := 78) hX dX0_isOpen_78 ic_1 ?_
              refine r_goto (tgt := 83) (pc := 79) hX dX0_isOpen_79 (by decide) ?_
              exact r_zretPk (pc := 83) hX hE dX0_isOpen_83 (by decide)
        · skip
          refine r_iconst (pc := 36) hX dX0_isOpen_36 ic_0 ?_
          exact r_zretPk (pc := 37) hX hE dX0_isOpen_37 (by decide)
def f_Box_sideOf (o : Nat) (a0 : Int32) (a1 : Int32) (m : Me) : Option Int32 := some (((((((m.1 o 7)) - ((m.1 o 5)))) * ((a1 - ((m.1 o 6)))))) - ((((((m.1 o 8)) - ((m.1 o 6)))) * ((a0 - ((m.1 o 5)))))))
set_option maxHeartbeats 4000000 in
set_option maxRecDepth 100000 in
theorem c_Box_sideOf (o : Nat) (a0 : Int32) (a1 : Int32) (ho : kd o = 0) (m : Me) (r : Int32) (h : f_Box_sideOf o a0 a1 m = some r) : Ct yX0_sideOf cX0_sideOf 3 (some .int) 0 (fun ad => [.ref (ad o), .int a0, .int a1]) m (fun ad => (some (.int r), m)) := by
  refine mk_ct (F := f_Box_sideOf o a0 a1 m) (fun _ => oP m) r h (fun _ => rfl) (by decide) (fun _ => Nat.le_of_ble_eq_true rfl) ?_
  intro X hX hE
  show J X (oP m) (f_Box_sideOf o a0 a1 m) m 0 [(0, rX X o), (1, .int a0), (2, .int a1)] []
  unfold f_Box_sideOf
  refine r_aload_n (pc := 0) hX 0 dX0_sideOf_0 rfl rfl ?_
  refine r_getI (pc := 1) hX dX0_sideOf_1 fp0_62 ho (by decide) ?_
  refine r_aload_n (pc := 4) hX 0 dX0_sideOf_4 rfl rfl ?_
  refine r_getI (pc := 5) hX dX0_sideOf_5 fp0_56 ho (by decide) ?_
  refine r_isub (pc := 8) hX dX0_sideOf_8 ?_
  refine r_iload_n (pc := 9) hX 2 dX0_sideOf_9 rfl rfl ?_
  refine r_aload_n (pc := 10) hX 0 dX0_sideOf_10 rfl rfl ?_
  refine r_getI (pc := 11) hX dX0_sideOf_11 fp0_59 ho (by decide) ?_
  refine r_isub (pc := 14) hX dX0_sideOf_14 ?_
  refine r_imul (pc := 15) hX dX0_sideOf_15 ?_
  refine r_aload_n (pc := 16) hX 0 dX0_sideOf_16 rfl rfl ?_
  refine r_getI (pc := 17) hX dX0_sideOf_17 fp0_65 ho (by decide) ?_
  refine r_aload_n (pc := 20) hX 0 dX0_sideOf_20 rfl rfl ?_
  refine r_getI (pc := 21) hX dX0_sideOf_21 fp0_59 ho (by decide) ?_
  refine r_isub (pc := 24) hX dX0_sideOf_24 ?_
  refine r_iload_n (pc := 25) hX 1 dX0_sideOf_25 rfl rfl ?_
  refine r_aload_n (pc := 26) hX 0 dX0_sideOf_26 rfl rfl ?_
  refine r_getI (pc := 27) hX dX0_sideOf_27 fp0_56 ho (by decide) ?_
  refine r_isub (pc := 30) hX dX0_sideOf_30 ?_
  refine r_imul (pc := 31) hX dX0_sideOf_31 ?_
  refine r_isub (pc := 32) hX dX0_sideOf_32 ?_
  exact r_iretP (pc := 33) hX hE dX0_sideOf_33
def f_Box_lineEnters (o : Nat) (a0 : Nat) (m : Me) : Option Int32 := bd (((2 : Int32) * ((m.1 a0 0)))) (fun v1 => bd (((2 : Int32) * ((m.1 a0 1)))) (fun v2 => bd (((2 : Int32) * ((m.1 a0 2)))) (fun v3 => bd (((2 : Int32) * ((m.1 a0 3)))) (fun v4 => if (mx (m.1 o 5) (m.1 o 7)) ≤ v1 then some (0 : Int32) else if (mn (m.1 o 5) (m.1 o 7)) < v3 then if (mx (m.1 o 6) (m.1 o 8)) ≤ v2 then some (0 : Int32) else if (mn (m.1 o 6) (m.1 o 8)) < v4 then cP (f_Box_sideOf o v1 v2 m) (fun v5 => cP (f_Box_sideOf o v3 v2 m) (fun v6 => cP (f_Box_sideOf o v3 v4 m) (fun v7 => cP (f_Box_sideOf o v1 v4 m) (fun v8 => bd (fun (v9 : Int32) => bd (fun (v10 : Int32) => if v9 = 0 then some (0 : Int32) else if v10 = 0 then some (0 : Int32) else some (1 : Int32)) (fun k184_ => bd ((k184_ (1 : Int32))) (fun k179_ => if 0 < v5 then (k179_) else if 0 < v6 then (k179_) else if 0 < v7 then (k179_) else if v8 ≤ 0 then (k184_ (0 : Int32)) else (k179_)))) (fun k157_ => bd ((k157_ (1 : Int32))) (fun k152_ => if v5 < 0 then (k152_) else if v6 < 0 then (k152_) else if v7 < 0 then (k152_) else if 0 ≤ v8 then (k157_ (0 : Int32)) else (k152_))))))) else some (0 : Int32) else some (0 : Int32)))))
set_option maxHeartbeats 4000000 in
set_option maxRecDepth 100000 in
theorem c_Box_lineEnters (o : Nat) (a0 : Nat) (ho : kd o = 0) (ha0 : kd a0 = 0) (m : Me) (r : Int32) (h : f_Box_lineEnters o a0 m = some r) : Ct yX0_lineEnters cX0_lineEnters 12 (some .boolean) 1 (fun ad => [.ref (ad o), .ref (ad a0)]) m (fun ad => (some (.int r), m)) := by
  refine mk_ct (F := f_Box_lineEnters o a0 m) (fun _ => oP m) r h (fun _ => rfl) (by decide) (fun _ => Nat.le_of_ble_eq_true rfl) ?_
  intro X hX hE
  show J X (oP m) (f_Box_lineEnters o a0 m) m 0 [(0, rX X o), (1, rX X a0)] []
  unfold f_Box_lineEnters
  refine r_iconst (pc := 0) hX dX0_lineEnters_0 ic_2 ?_
  refine r_aload_n (pc := 1) hX 1 dX0_lineEnters_1 rfl rfl ?_
  refine r_getI (pc := 2) hX dX0_lineEnters_2 fp0_40 ha0 (by decide) ?_
  refine r_imul (pc := 5) hX dX0_lineEnters_5 ?_
  refine r_nmI (fun v1 => ?_)
  refine r_istore_n (L' := [(2, .int v1), (0, rX X o), (1, rX X a0)]) (pc := 6) hX dX0_lineEnters_6 rfl (by decide) rfl ?_
  refine r_iconst (pc := 7) hX dX0_lineEnters_7 ic_2 ?_
  refine r_aload_n (pc := 8) hX 2 dX0_lineEnters_8 rfl rfl ?_
  refine r_getI (pc := 9) hX dX0_lineEnters_9 fp0_47 ha0 (by decide) ?_
  refine r_imul (pc := 12) hX dX0_lineEnters_12 ?_
  refine r_nmI (fun v2 => ?_)
  refine r_istore_n (L' := [(3, .int v2), (2, .int v1), (0, rX X o), (1, rX X a0)]) (pc := 13) hX dX0_lineEnters_13 rfl (by decide) rfl ?_
  refine r_iconst (pc := 14) hX dX0_lineEnters_14 ic_2 ?_
  refine r_aload_n (pc := 15) hX 3 dX0_lineEnters_15 rfl rfl ?_
  refine r_getI (pc := 16) hX dX0_lineEnters_16 fp0_50 ha0 (by decide) ?_
  refine r_imul (pc := 19) hX dX0_lineEnters_19 ?_
  refine r_nmI (fun v3 => ?_)
  refine r_istore (L' := [(4, .int v3), (3, .int v2), (2, .int v1), (0, rX X o), (1, rX X a0)]) (pc := 20) hX dX0_lineEnters_20 (by decide) rfl ?_
  refine r_iconst (pc := 22) hX dX0_lineEnters_22 ic_2 ?_
  refine r_aload_n (pc := 23) hX 4 dX0_lineEnters_23 rfl rfl ?_
  refine r_getI (pc := 24) hX dX0_lineEnters_24 fp0_53 ha0 (by decide) ?_
  refine r_imul (pc := 27) hX dX0_lineEnters_27 ?_
  refine r_nmI (fun v4 => ?_)
  refine r_istore (L' := [(5, .int v4), (4, .int v3), (3, .int v2), (2, .int v1), (0, rX X o), (1, rX X a0)]) (pc := 28) hX dX0_lineEnters_28 (by decide) rfl ?_
  refine r_aload_n (pc := 30) hX 4 dX0_lineEnters_30 rfl rfl ?_
  refine r_getI (pc := 31) hX dX0_lineEnters_31 fp0_56 ho (by decide) ?_
  refine r_aload_n (pc := 34) hX 4 dX0_lineEnters_34 rfl rfl ?_
  refine r_getI (pc := 35) hX dX0_lineEnters_35 fp0_62 ho (by decide) ?_
  refine r_mmax (st := []) (pc := 38) hX dX0_lineEnters_38 lkM0_99 (Nat.le_of_ble_eq_true rfl) (by omega) ?_
  refine r_iload_n (pc := 41) hX 3 dX0_lineEnters_41 rfl rfl ?_
  refine r_icmp_le (tgt := 61) (pc := 42) hX dX0_lineEnters_42 (by decide) ?_ ?_
  · skip
    refine r_iconst (pc := 61) hX dX0_lineEnters_61 ic_0 ?_
    exact r_zretPk (pc := 62) hX hE dX0_lineEnters_62 (by decide)
  · skip
    refine r_aload_n (pc := 45) hX 4 dX0_lineEnters_45 rfl rfl ?_
    refine r_getI (pc := 46) hX dX0_lineEnters_46 fp0_56 ho (by decide) ?_
    refine r_aload_n (pc := 49) hX 4 dX0_lineEnters_49 rfl rfl ?_
    refine r_getI (pc := 50) hX dX0_lineEnters_50 fp0_62 ho (by decide) ?_
    refine r_mmin (st := []) (pc := 53) hX dX0_lineEnters_53 lkM0_105 (Nat.le_of_ble_eq_true rfl) (by omega) ?_
    refine r_iload (pc := 56) hX 1 dX0_lineEnters_56 rfl ?_
    refine r_icmp_lt (tgt := 63) (pc := 58) hX dX0_lineEnters_58 (by decide) ?_ ?_
    · skip
      refine r_aload_n (pc := 63) hX 4 dX0_lineEnters_63 rfl rfl ?_
      refine r_getI (pc := 64) hX dX0_lineEnters_64 fp0_59 ho (by decide) ?_
      refine r_aload_n (pc := 67) hX 4 dX0_lineEnters_67 rfl rfl ?_
      refine r_getI (pc := 68) hX dX0_lineEnters_68 fp0_65 ho (by decide) ?_
      refine r_mmax (st := []) (pc := 71) hX dX0_lineEnters_71 lkM0_99 (Nat.le_of_ble_eq_true rfl) (by omega) ?_
      refine r_iload_n (pc := 74) hX 2 dX0_lineEnters_74 rfl rfl ?_
      refine r_icmp_le (tgt := 94) (pc := 75) hX dX0_lineEnters_75 (by decide) ?_ ?_
      · skip
        refine r_iconst (pc := 94) hX dX0_lineEnters_94 ic_0 ?_
        exact r_zretPk (pc := 95) hX hE dX0_lineEnters_95 (by decide)
      · skip
        refine r_aload_n (pc := 78) hX 4 dX0_lineEnters_78 rfl rfl ?_
        refine r_getI (pc := 79) hX dX0_lineEnters_79 fp0_59 ho (by decide) ?_
        refine r_aload_n (pc := 82) hX 4 dX0_lineEnters_82 rfl rfl ?_
        refine r_getI (pc := 83) hX dX0_lineEnters_83 fp0_65 ho (by decide) ?_
        refine r_mmin (st := []) (pc := 86) hX dX0_lineEnters_86 lkM0_105 (Nat.le_of_ble_eq_true rfl) (by omega) ?_
        refine r_iload (pc := 89) hX 0 dX0_lineEnters_89 rfl ?_
        refine r_icmp_lt (tgt := 96) (pc := 91) hX dX0_lineEnters_91 (by decide) ?_ ?_
        · skip
          refine r_aload_n (pc := 96) hX 4 dX0_lineEnters_96 rfl rfl ?_
          refine r_iload_n (pc := 97) hX 3 dX0_lineEnters_97 rfl rfl ?_
          refine r_iload_n (pc := 98) hX 2 dX0_lineEnters_98 rfl rfl ?_
          refine r_cvP (st := []) (pc := 99) hX dX0_lineEnters_99 MI_Box_sideOf MV_Box_sideOf lkX0_108 ho (c_Box_sideOf o v1 v2 ho m) rfl rfl (Nat.le_of_ble_eq_true rfl) (by decide) (fun v5 => ?_)
          refine r_istore (L' := [(6, .int v5), (5, .int v4), (4, .int v3), (3, .int v2), (2, .int v1), (0, rX X o), (1, rX X a0)]) (pc := 102) hX dX0_lineEnters_102 (by decide) rfl ?_
          refine r_aload_n (pc := 104) hX 5 dX0_lineEnters_104 rfl rfl ?_
          refine r_iload (pc := 105) hX 2 dX0_lineEnters_105 rfl ?_
          refine r_iload_n (pc := 107) hX 3 dX0_lineEnters_107 rfl rfl ?_
          refine r_cvP (st := []) (pc := 108) hX dX0_lineEnters_108 MI_Box_sideOf MV_Box_sideOf lkX0_108 ho (c_Box_sideOf o v3 v2 ho m) rfl rfl (Nat.le_of_ble_eq_true rfl) (by decide) (fun v6 => ?_)
          refine r_istore (L' := [(7, .int v6), (6, .int v5), (5, .int v4), (4, .int v3), (3, .int v2), (2, .int v1), (0, rX X o), (1, rX X a0)]) (pc := 111) hX dX0_lineEnters_111 (by decide) rfl ?_
          refine r_aload_n (pc := 113) hX 6 dX0_lineEnters_113 rfl rfl ?_
          refine r_iload (pc := 114) hX 3 dX0_lineEnters_114 rfl ?_
          refine r_iload (pc := 116) hX 2 dX0_lineEnters_116 rfl ?_
          refine r_cvP (st := []) (pc := 118) hX dX0_lineEnters_118 MI_Box_sideOf MV_Box_sideOf lkX0_108 ho (c_Box_sideOf o v3 v4 ho m) rfl rfl (Nat.le_of_ble_eq_true rfl) (by decide) (fun v7 => ?_)
          refine r_istore (L' := [(8, .int v7), (7, .int v6), (6, .int v5), (5, .int v4), (4, .int v3), (3, .int v2), (2, .int v1), (0, rX X o), (1, rX X a0)]) (pc := 121) hX dX0_lineEnters_121 (by decide) rfl ?_
          refine r_aload_n (pc := 123) hX 7 dX0_lineEnters_123 rfl rfl ?_
          refine r_iload_n (pc := 124) hX 6 dX0_lineEnters_124 rfl rfl ?_
          refine r_iload (pc := 125) hX 3 dX0_lineEnters_125 rfl ?_
          refine r_cvP (st := []) (pc := 127) hX dX0_lineEnters_127 MI_Box_sideOf MV_Box_sideOf lkX0_108 ho (c_Box_sideOf o v1 v4 ho m) rfl rfl (Nat.le_of_ble_eq_true rfl) (by decide) (fun v8 => ?_)
          refine r_istore (L' := [(9, .int v8), (8, .int v7), (7, .int v6), (6, .int v5), (5, .int v4), (4, .int v3), (3, .int v2), (2, .int v1), (0, rX X o), (1, rX X a0)]) (pc := 130) hX dX0_lineEnters_130 (by decide) rfl ?_
          refine r_iload (pc := 132) hX 3 dX0_lineEnters_132 rfl ?_
          refine r_join (P := fun k => ∀ (v9 : Int32), J X (oP m) (k v9) m 157 [(6, .int v5), (7, .int v6), (8, .int v7), (9, .int v8)] [.int v9]) ?_ ?_
          · intro v9
            refine r_istore (L' := [(10, .int v9), (6, .int v5), (7, .int v6), (8, .int v7), (9, .int v8)]) (pc := 157) hX dX0_lineEnters_157 (by decide) rfl ?_
            refine r_iload (pc := 159) hX 1 dX0_lineEnters_159 rfl ?_
            refine r_join (P := fun k => ∀ (v10 : Int32), J X (oP m) (k v10) m 184 [(10, .int v9)] [.int v10]) ?_ ?_
            · intro v10
              refine r_istore (L' := [(11, .int v10), (10, .int v9)]) (pc := 184) hX dX0_lineEnters_184 (by decide) rfl ?_
              refine r_iload (pc := 186) hX 1 dX0_lineEnters_186 rfl ?_
              refine r_if_eq (tgt := 200) (pc := 188) hX dX0_lineEnters_188 (by decide) ?_ ?_
              · skip
                refine r_iconst (pc := 200) hX dX0_lineEnters_200 ic_0 ?_
                exact r_zretPk (pc := 201) hX hE dX0_lineEnters_201 (by decide)
              · skip
                refine r_iload (pc := 191) hX 0 dX0_lineEnters_191 rfl ?_
                refine r_if_eq (tgt := 200) (pc := 193) hX dX0_lineEnters_193 (by decide) ?_ ?_
                · skip
                  refine r_iconst (pc := 200) hX dX0_lineEnters_200 ic_0 ?_
                  exact r_zretPk (pc := 201) hX hE dX0_lineEnters_201 (by decide)
                · skip
                  refine r_iconst (pc := 196) hX dX0_lineEnters_196 ic_1 ?_
                  refine r_goto (tgt := 201) (pc := 197) hX dX0_lineEnters_197 (by decide) ?_
                  exact r_zretPk (pc := 201) hX hE dX0_lineEnters_201 (by decide)
            intro k184_ hk184_
            refine r_join (P := fun k => J X (oP m) (k) m 179 [(10, .int v9)] []) ?_ ?_
            · skip
              refine r_iconst (pc := 179) hX dX0_lineEnters_179 ic_1 ?_
              refine r_goto (tgt := 184) (pc := 180) hX dX0_lineEnters_180 (by decide) ?_
              exact hk184_ (1 : Int32)
            intro k179_ hk179_
            refine r_if_gt (tgt := 179) (pc := 161) hX dX0_lineEnters_161 (by decide) ?_ ?_
            · skip
              exact r_sub [0] rfl (hk179_)
            · skip
              refine r_iload (pc := 164) hX 2 dX0_lineEnters_164 rfl ?_
              refine r_if_gt (tgt := 179) (pc := 166) hX dX0_lineEnters_166 (by decide) ?_ ?_
              · skip
                exact r_sub [0] rfl (hk179_)
              · skip
                refine r_iload (pc := 169) hX 3 dX0_lineEnters_169 rfl ?_
                refine r_if_gt (tgt := 179) (pc := 171) hX dX0_lineEnters_171 (by decide) ?_ ?_
                · skip
                  exact r_sub [0] rfl (hk179_)
                · skip
                  refine r_iload (pc := 174) hX 4 dX0_lineEnters_174 rfl ?_
                  refine r_if_le (tgt := 183) (pc := 176) hX dX0_lineEnters_176 (by decide) ?_ ?_
                  · skip
                    refine r_iconst (pc := 183) hX dX0_lineEnters_183 ic_0 ?_
                    exact r_sub [0] rfl (hk184_ (0 : Int32))
                  · skip
                    exact r_sub [0] rfl (hk179_)
          intro k157_ hk157_
          refine r_join (P := fun k => J X (oP m) (k) m 152 [(6, .int v5), (7, .int v6), (8, .int v7), (9, .int v8)] []) ?_ ?_
          · skip
            refine r_iconst (pc := 152) hX dX0_lineEnters_152 ic_1 ?_
            refine r_goto (tgt := 157) (pc := 153) hX dX0_lineEnters_153 (by decide) ?_
            exact hk157_ (1 : Int32)
          intro k152_ hk152_
          refine r_if_lt (tgt := 152) (pc := 134) hX dX0_lineEnters_134 (by decide) ?_ ?_
          · skip
            exact r_sub [3, 2, 1, 0] rfl (hk152_)
          · skip
            refine r_iload (pc := 137) hX 2 dX0_lineEnters_137 rfl ?_
            refine r_if_lt (tgt := 152) (pc := 139) hX dX0_lineEnters_139 (by decide) ?_ ?_
            · skip
              exact r_sub [3, 2, 1, 0] rfl (hk152_)
            · skip
              refine r_iload (pc := 142) hX 1 dX0_lineEnters_142 rfl ?_
              refine r_if_lt (tgt := 152) (pc := 144) hX dX0_lineEnters_144 (by decide) ?_ ?_
              · skip
                exact r_sub [3, 2, 1, 0] rfl (hk152_)
              · skip
                refine r_iload (pc := 147) hX 0 dX0_lineEnters_147 rfl ?_
                refine r_if_ge (tgt := 156) (pc := 149) hX dX0_lineEnters_149 (by decide) ?_ ?_
                · skip
                  refine r_iconst (pc := 156) hX dX0_lineEnters_156 ic_0 ?_
                  exact r_sub [3, 2, 1, 0] rfl (hk157_ (0 : Int32))
                · skip
                  exact r_sub [3, 2, 1, 0] rfl (hk152_)
        · skip
          refine r_iconst (pc := 94) hX dX0_lineEnters_94 ic_0 ?_
          exact r_zretPk (pc := 95) hX hE dX0_lineEnters_95 (by decide)
    · skip
      refine r_iconst (pc := 61) hX dX0_lineEnters_61 ic_0 ?_
      exact r_zretPk (pc := 62) hX hE dX0_lineEnters_62 (by decide)
def f_Box_linesMeet (o : Nat) (a0 : Nat) (m : Me) : Option Int32 := if (mx (m.1 o 5) (m.1 o 7)) < (mn (m.1 a0 5) (m.1 a0 7)) then some (0 : Int32) else if (mn (m.1 o 5) (m.1 o 7)) ≤ (mx (m.1 a0 5) (m.1 a0 7)) then if (mx (m.1 o 6) (m.1 o 8)) < (mn (m.1 a0 6) (m.1 a0 8)) then some (0 : Int32) else if (mn (m.1 o 6) (m.1 o 8)) ≤ (mx (m.1 a0 6) (m.1 a0 8)) then cP (f_Box_sideOf o (m.1 a0 5) (m.1 a0 6) m) (fun v1 => cP (f_Box_sideOf o (m.1 a0 7) (m.1 a0 8) m) (fun v2 => cP (f_Box_sideOf a0 (m.1 o 5) (m.1 o 6) m) (fun v3 => cP (f_Box_sideOf a0 (m.1 o 7) (m.1 o 8) m) (fun v4 => bd (fun (v5 : Int32) => bd (fun (v6 : Int32) => if v5 = 0 then if v6 = 0 then some (1 : Int32) else some (0 : Int32) else some (0 : Int32)) (fun k206_ => bd ((k206_ (1 : Int32))) (fun k201_ => bd (bd ((k206_ (0 : Int32))) (fun k205_ => if v3 ≤ 0 then (k205_) else if v4 ≤ 0 then (k205_) else (k201_))) (fun k191_ => if 0 ≤ v3 then (k191_) else if v4 < 0 then (k201_) else (k191_))))) (fun k179_ => bd ((k179_ (1 : Int32))) (fun k174_ => bd (bd ((k179_ (0 : Int32))) (fun k178_ => if v1 ≤ 0 then (k178_) else if v2 ≤ 0 then (k178_) else (k174_))) (fun k166_ => if 0 ≤ v1 then (k166_) else if v2 < 0 then (k174_) else (k166_)))))))) else some (0 : Int32) else some (0 : Int32)
set_option maxHeartbeats 4000000 in
set_option maxRecDepth 100000 in
theorem c_Box_linesMeet (o : Nat) (a0 : Nat) (ho : kd o = 0) (ha0 : kd a0 = 0) (m : Me) (r : Int32) (h : f_Box_linesMeet o a0 m = some r) : Ct yX0_linesMeet cX0_linesMeet 8 (some .boolean) 1 (fun ad => [.ref (ad o), .ref (ad a0)]) m (fun ad => (some (.int r), m)) := by
  refine mk_ct (F := f_Box_linesMeet o a0 m) (fun _ => oP m) r h (fun _ => rfl) (by decide) (fun _ => Nat.le_of_ble_eq_true rfl) ?_
  intro X hX hE
  show J X (oP m) (f_Box_linesMeet o a0 m) m 0 [(0, rX X o), (1, rX X a0)] []
  unfold f_Box_linesMeet
  refine r_aload_n (pc := 0) hX 0 dX0_linesMeet_0 rfl rfl ?_
  refine r_getI (pc := 1) hX dX0_linesMeet_1 fp0_56 ho (by decide) ?_
  refine r_aload_n (pc := 4) hX 0 dX0_linesMeet_4 rfl rfl ?_
  refine r_getI (pc := 5) hX dX0_linesMeet_5 fp0_62 ho (by decide) ?_
  refine r_mmax (st := []) (pc := 8) hX dX0_linesMeet_8 lkM0_99 (Nat.le_of_ble_eq_true rfl) (by omega) ?_
  refine r_aload_n (pc := 11) hX 1 dX0_linesMeet_11 rfl rfl ?_
  refine r_getI (pc := 12) hX dX0_linesMeet_12 fp0_56 ha0 (by decide) ?_
  refine r_aload_n (pc := 15) hX 1 dX0_linesMeet_15 rfl rfl ?_
  refine r_getI (pc := 16) hX dX0_linesMeet_16 fp0_62 ha0 (by decide) ?_
  refine r_mmin (st := [.int (mx (m.1 o 5) (m.1 o 7))]) (pc := 19) hX dX0_linesMeet_19 lkM0_105 (Nat.le_of_ble_eq_true rfl) (by omega) ?_
  refine r_icmp_lt (tgt := 50) (pc := 22) hX dX0_linesMeet_22 (by decide) ?_ ?_
  · skip
    refine r_iconst (pc := 50) hX dX0_linesMeet_50 ic_0 ?_
    exact r_zretPk (pc := 51) hX hE dX0_linesMeet_51 (by decide)
  · skip
    refine r_aload_n (pc := 25) hX 1 dX0_linesMeet_25 rfl rfl ?_
    refine r_getI (pc := 26) hX dX0_linesMeet_26 fp0_56 ha0 (by decide) ?_
    refine r_aload_n (pc := 29) hX 1 dX0_linesMeet_29 rfl rfl ?_
    refine r_getI (pc := 30) hX dX0_linesMeet_30 fp0_62 ha0 (by decide) ?_
    refine r_mmax (st := []) (pc := 33) hX dX0_linesMeet_33 lkM0_99 (Nat.le_of_ble_eq_true rfl) (by omega) ?_
    refine r_aload_n (pc := 36) hX 0 dX0_linesMeet_36 rfl rfl ?_
    refine r_getI (pc := 37) hX dX0_linesMeet_37 fp0_56 ho (by decide) ?_
    refine r_aload_n (pc := 40) hX 0 dX0_linesMeet_40 rfl rfl ?_
    refine r_getI (pc := 41) hX dX0_linesMeet_41 fp0_62 ho (by decide) ?_
    refine r_mmin (st := [.int (mx (m.1 a0 5) (m.1 a0 7))]) (pc := 44) hX dX0_linesMeet_44 lkM0_105 (Nat.le_of_ble_eq_true rfl) (by omega) ?_
    refine r_icmp_ge (tgt := 52) (pc := 47) hX dX0_linesMeet_47 (by decide) ?_ ?_
    · skip
      refine r_aload_n (pc := 52) hX 0 dX0_linesMeet_52 rfl rfl ?_
      refine r_getI (pc := 53) hX dX0_linesMeet_53 fp0_59 ho (by decide) ?_
      refine r_aload_n (pc := 56) hX 0 dX0_linesMeet_56 rfl rfl ?_
      refine r_getI (pc := 57) hX dX0_linesMeet_57 fp0_65 ho (by decide) ?_
      refine r_mmax (st := []) (pc := 60) hX dX0_linesMeet_60 lkM0_99 (Nat.le_of_ble_eq_true rfl) (by omega) ?_
      refine r_aload_n (pc := 63) hX 1 dX0_linesMeet_63 rfl rfl ?_
      refine r_getI (pc := 64) hX dX0_linesMeet_64 fp0_59 ha0 (by decide) ?_
      refine r_aload_n (pc := 67) hX 1 dX0_linesMeet_67 rfl rfl ?_
      refine r_getI (pc := 68) hX dX0_linesMeet_68 fp0_65 ha0 (by decide) ?_
      refine r_mmin (st := [.int (mx (m.1 o 6) (m.1 o 8))]) (pc := 71) hX dX0_linesMeet_71 lkM0_105 (Nat.le_of_ble_eq_true rfl) (by omega) ?_
      refine r_icmp_lt (tgt := 102) (pc := 74) hX dX0_linesMeet_74 (by decide) ?_ ?_
      · skip
        refine r_iconst (pc := 102) hX dX0_linesMeet_102 ic_0 ?_
        exact r_zretPk (pc := 103) hX hE dX0_linesMeet_103 (by decide)
      · skip
        refine r_aload_n (pc := 77) hX 1 dX0_linesMeet_77 rfl rfl ?_
        refine r_getI (pc := 78) hX dX0_linesMeet_78 fp0_59 ha0 (by decide) ?_
        refine r_aload_n (pc := 81) hX 1 dX0_linesMeet_81 rfl rfl ?_
        refine r_getI (pc := 82) hX dX0_linesMeet_82 fp0_65 ha0 (by decide) ?_
        refine r_mmax (st := []) (pc := 85) hX dX0_linesMeet_85 lkM0_99 (Nat.le_of_ble_eq_true rfl) (by omega) ?_
        refine r_aload_n (pc := 88) hX 0 dX0_linesMeet_88 rfl rfl ?_
        refine r_getI (pc := 89) hX dX0_linesMeet_89 fp0_59 ho (by decide) ?_
        refine r_aload_n (pc := 92) hX 0 dX0_linesMeet_92 rfl rfl ?_
        refine r_getI (pc := 93) hX dX0_linesMeet_93 fp0_65 ho (by decide) ?_
        refine r_mmin (st := [.int (mx (m.1 a0 6) (m.1 a0 8))]) (pc := 96) hX dX0_linesMeet_96 lkM0_105 (Nat.le_of_ble_eq_true rfl) (by omega) ?_
        refine r_icmp_ge (tgt := 104) (pc := 99) hX dX0_linesMeet_99 (by decide) ?_ ?_
        · skip
          refine r_aload_n (pc := 104) hX 0 dX0_linesMeet_104 rfl rfl ?_
          refine r_aload_n (pc := 105) hX 1 dX0_linesMeet_105 rfl rfl ?_
          refine r_getI (pc := 106) hX dX0_linesMeet_106 fp0_56 ha0 (by decide) ?_
          refine r_aload_n (pc := 109) hX 1 dX0_linesMeet_109 rfl rfl ?_
          refine r_getI (pc := 110) hX dX0_linesMeet_110 fp0_59 ha0 (by decide) ?_
          refine r_cvP (st := []) (pc := 113) hX dX0_linesMeet_113 MI_Box_sideOf MV_Box_sideOf lkX0_108 ho (c_Box_sideOf o (m.1 a0 5) (m.1 a0 6) ho m) rfl rfl (Nat.le_of_ble_eq_true rfl) (by decide) (fun v1 => ?_)
          refine r_istore_n (L' := [(2, .int v1), (0, rX X o), (1, rX X a0)]) (pc := 116) hX dX0_linesMeet_116 rfl (by decide) rfl ?_
          refine r_aload_n (pc := 117) hX 1 dX0_linesMeet_117 rfl rfl ?_
          refine r_aload_n (pc := 118) hX 2 dX0_linesMeet_118 rfl rfl ?_
          refine r_getI (pc := 119) hX dX0_linesMeet_119 fp0_62 ha0 (by decide) ?_
          refine r_aload_n (pc := 122) hX 2 dX0_linesMeet_122 rfl rfl ?_
          refine r_getI (pc := 123) hX dX0_linesMeet_123 fp0_65 ha0 (by decide) ?_
          refine r_cvP (st := []) (pc := 126) hX dX0_linesMeet_126 MI_Box_sideOf MV_Box_sideOf lkX0_108 ho (c_Box_sideOf o (m.1 a0 7) (m.1 a0 8) ho m) rfl rfl (Nat.le_of_ble_eq_true rfl) (by decide) (fun v2 => ?_)
          refine r_istore_n (L' := [(3, .int v2), (2, .int v1), (0, rX X o), (1, rX X a0)]) (pc := 129) hX dX0_linesMeet_129 rfl (by decide) rfl ?_
          refine r_aload_n (pc := 130) hX 3 dX0_linesMeet_130 rfl rfl ?_
          refine r_aload_n (pc := 131) hX 2 dX0_linesMeet_131 rfl rfl ?_
          refine r_getI (pc := 132) hX dX0_linesMeet_132 fp0_56 ho (by decide) ?_
          refine r_aload_n (pc := 135) hX 2 dX0_linesMeet_135 rfl rfl ?_
          refine r_getI (pc := 136) hX dX0_linesMeet_136 fp0_59 ho (by decide) ?_
          refine r_cvP (st := []) (pc := 139) hX dX0_linesMeet_139 MI_Box_sideOf MV_Box_sideOf lkX0_108 ha0 (c_Box_sideOf a0 (m.1 o 5) (m.1 o 6) ha0 m) rfl rfl (Nat.le_of_ble_eq_true rfl) (by decide) (fun v3 => ?_)
          refine r_istore (L' := [(4, .int v3), (3, .int v2), (2, .int v1), (0, rX X o), (1, rX X a0)]) (pc := 142) hX dX0_linesMeet_142 (by decide) rfl ?_
          refine r_aload_n (pc := 144) hX 4 dX0_linesMeet_144 rfl rfl ?_
          refine r_aload_n (pc := 145) hX 3 dX0_linesMeet_145 rfl rfl ?_
          refine r_getI (pc := 146) hX dX0_linesMeet_146 fp0_62 ho (by decide) ?_
          refine r_aload_n (pc := 149) hX 3 dX0_linesMeet_149 rfl rfl ?_
          refine r_getI (pc := 150) hX dX0_linesMeet_150 fp0_65 ho (by decide) ?_
          refine r_cvP (st := []) (pc := 153) hX dX0_linesMeet_153 MI_Box_sideOf MV_Box_sideOf lkX0_108 ha0 (c_Box_sideOf a0 (m.1 o 7) (m.1 o 8) ha0 m) rfl rfl (Nat.le_of_ble_eq_true rfl) (by decide) (fun v4 => ?_)
          refine r_istore (L' := [(5, .int v4), (4, .int v3), (3, .int v2), (2, .int v1), (0, rX X o), (1, rX X a0)]) (pc := 156) hX dX0_linesMeet_156 (by decide) rfl ?_
          refine r_iload_n (pc := 158) hX 3 dX0_linesMeet_158 rfl rfl ?_
          refine r_join (P := fun k => ∀ (v5 : Int32), J X (oP m) (k v5) m 179 [(4, .int v3), (5, .int v4)] [.int v5]) ?_ ?_
          · intro v5
            refine r_istore (L' := [(6, .int v5), (4, .int v3), (5, .int v4)]) (pc := 179) hX dX0_linesMeet_179 (by decide) rfl ?_
            refine r_iload (pc := 181) hX 1 dX0_linesMeet_181 rfl ?_
            refine r_join (P := fun k => ∀ (v6 : Int32), J X (oP m) (k v6) m 206 [(6, .int v5)] [.int v6]) ?_ ?_
            · intro v6
              refine r_istore (L' := [(7, .int v6), (6, .int v5)]) (pc := 206) hX dX0_linesMeet_206 (by decide) rfl ?_
              refine r_iload (pc := 208) hX 1 dX0_linesMeet_208 rfl ?_
              refine r_if_ne (tgt := 222) (pc := 210) hX dX0_linesMeet_210 (by decide) ?_ ?_
              · skip
                refine r_iconst (pc := 222) hX dX0_linesMeet_222 ic_0 ?_
                exact r_zretPk (pc := 223) hX hE dX0_linesMeet_223 (by decide)
              · skip
                refine r_iload (pc := 213) hX 0 dX0_linesMeet_213 rfl ?_
                refine r_if_ne (tgt := 222) (pc := 215) hX dX0_linesMeet_215 (by decide) ?_ ?_
                · skip
                  refine r_iconst (pc := 222) hX dX0_linesMeet_222 ic_0 ?_
                  exact r_zretPk (pc := 223) hX hE dX0_linesMeet_223 (by decide)
                · skip
                  refine r_iconst (pc := 218) hX dX0_linesMeet_218 ic_1 ?_
                  refine r_goto (tgt := 223) (pc := 219) hX dX0_linesMeet_219 (by decide) ?_
                  exact r_zretPk (pc := 223) hX hE dX0_linesMeet_223 (by decide)
            intro k206_ hk206_
            refine r_join (P := fun k => J X (oP m) (k) m 201 [(6, .int v5)] []) ?_ ?_
            · skip
              refine r_iconst (pc := 201) hX dX0_linesMeet_201 ic_1 ?_
              refine r_goto (tgt := 206) (pc := 202) hX dX0_linesMeet_202 (by decide) ?_
              exact hk206_ (1 : Int32)
            intro k201_ hk201_
            refine r_join (P := fun k => J X (oP m) (k) m 191 [(4, .int v3), (5, .int v4), (6, .int v5)] []) ?_ ?_
            · skip
              refine r_iload (pc := 191) hX 0 dX0_linesMeet_191 rfl ?_
              refine r_join (P := fun k => J X (oP m) (k) m 205 [(6, .int v5)] []) ?_ ?_
              · skip
                refine r_iconst (pc := 205) hX dX0_linesMeet_205 ic_0 ?_
                exact hk206_ (0 : Int32)
              intro k205_ hk205_
              refine r_if_le (tgt := 205) (pc := 193) hX dX0_linesMeet_193 (by decide) ?_ ?_
              · skip
                exact r_sub [2] rfl (hk205_)
              · skip
                refine r_iload (pc := 196) hX 1 dX0_linesMeet_196 rfl ?_
                refine r_if_le (tgt := 205) (pc := 198) hX dX0_linesMeet_198 (by decide) ?_ ?_
                · skip
                  exact r_sub [2] rfl (hk205_)
                · skip
                  exact r_sub [2] rfl (hk201_)
            intro k191_ hk191_
            refine r_if_ge (tgt := 191) (pc := 183) hX dX0_linesMeet_183 (by decide) ?_ ?_
            · skip
              exact r_sub [1, 2, 0] rfl (hk191_)
            · skip
              refine r_iload (pc := 186) hX 2 dX0_linesMeet_186 rfl ?_
              refine r_if_lt (tgt := 201) (pc := 188) hX dX0_linesMeet_188 (by decide) ?_ ?_
              · skip
                exact r_sub [0] rfl (hk201_)
              · skip
                exact r_sub [1, 2, 0] rfl (hk191_)
          intro k179_ hk179_
          refine r_join (P := fun k => J X (oP m) (k) m 174 [(4, .int v3), (5, .int v4)] []) ?_ ?_
          · skip
            refine r_iconst (pc := 174) hX dX0_linesMeet_174 ic_1 ?_
            refine r_goto (tgt := 179) (pc := 175) hX dX0_linesMeet_175 (by decide) ?_
            exact hk179_ (1 : Int32)
          intro k174_ hk174_
          refine r_join (P := fun k => J X (oP m) (k) m 166 [(2, .int v1), (3, .int v2), (4, .int v3), (5, .int v4)] []) ?_ ?_
          · skip
            refine r_iload_n (pc := 166) hX 0 dX0_linesMeet_166 rfl rfl ?_
            refine r_join (P := fun k => J X (oP m) (k) m 178 [(4, .int v3), (5, .int v4)] []) ?_ ?_
            · skip
              refine r_iconst (pc := 178) hX dX0_linesMeet_178 ic_0 ?_
              exact hk179_ (0 : Int32)
            intro k178_ hk178_
            refine r_if_le (tgt := 178) (pc := 167) hX dX0_linesMeet_167 (by decide) ?_ ?_
            · skip
              exact r_sub [2, 3] rfl (hk178_)
            · skip
              refine r_iload_n (pc := 170) hX 1 dX0_linesMeet_170 rfl rfl ?_
              refine r_if_le (tgt := 178) (pc := 171) hX dX0_linesMeet_171 (by decide) ?_ ?_
              · skip
                exact r_sub [2, 3] rfl (hk178_)
              · skip
                exact r_sub [2, 3] rfl (hk174_)
          intro k166_ hk166_
          refine r_if_ge (tgt := 166) (pc := 159) hX dX0_linesMeet_159 (by decide) ?_ ?_
          · skip
            exact r_sub [3, 2, 1, 0] rfl (hk166_)
          · skip
            refine r_iload_n (pc := 162) hX 2 dX0_linesMeet_162 rfl rfl ?_
            refine r_if_lt (tgt := 174) (pc := 163) hX dX0_linesMeet_163 (by decide) ?_ ?_
            · skip
              exact r_sub [1, 0] rfl (hk174_)
            · skip
              exact r_sub [3, 2, 1, 0] rfl (hk166_)
        · skip
          refine r_iconst (pc := 102) hX dX0_linesMeet_102 ic_0 ?_
          exact r_zretPk (pc := 103) hX hE dX0_linesMeet_103 (by decide)
    · skip
      refine r_iconst (pc := 50) hX dX0_linesMeet_50 ic_0 ?_
      exact r_zretPk (pc := 51) hX hE dX0_linesMeet_51 (by decide)
def f_Box_hits (o : Nat) (a0 : Nat) (m : Me) : Option Int32 := cP (f_Box_overlaps o (m.1 a0 0) (m.1 a0 1) (m.1 a0 2) (m.1 a0 3) m) (fun v1 => if v1 = 0 then bd (bd (if (m.1 o 4) = 0 then some (0 : Int32) else if (m.1 a0 4) = 0 then some (0 : Int32) else cP (f_Box_linesMeet o a0 m) (fun v2 => if v2 = 0 then some (0 : Int32) else some (1 : Int32))) (fun k57_ => if (m.1 a0 4) = 0 then (k57_) else cP (f_Box_lineEnters a0 o m) (fun v3 => if v3 = 0 then (k57_) else some (1 : Int32)))) (fun k40_ => if (m.1 o 4) = 0 then (k40_) else cP (f_Box_lineEnters o a0 m) (fun v4 => if v4 = 0 then (k40_) else some (1 : Int32))) else some (1 : Int32))
set_option maxHeartbeats 4000000 in
set_option maxRecDepth 100000 in
theorem c_Box_hits (o : Nat) (a0 : Nat) (ho : kd o = 0) (ha0 : kd a0 = 0) (m : Me) (r : Int32) (h : f_Box_hits o a0 m = some r) : Ct yX0_hits cX0_hits 2 (some .boolean) 2 (fun ad => [.ref (ad o), .ref (ad a0)]) m (fun ad => (some (.int r), m)) := by
  refine mk_ct (F := f_Box_hits o a0 m) (fun _ => oP m) r h (fun _ => rfl) (by decide) (fun _ => Nat.le_of_ble_eq_true rfl) ?_
  intro X hX hE
  show J X (oP m) (f_Box_hits o a0 m) m 0 [(0, rX X o), (1, rX X a0)] []
  unfold f_Box_hits
  refine r_aload_n (pc := 0) hX 0 dX0_hits_0 rfl rfl ?_
  refine r_aload_n (pc := 1) hX 1 dX0_hits_1 rfl rfl ?_
  refine r_getI (pc := 2) hX dX0_hits_2 fp0_40 ha0 (by decide) ?_
  refine r_aload_n (pc := 5) hX 1 dX0_hits_5 rfl rfl ?_
  refine r_getI (pc := 6) hX dX0_hits_6 fp0_47 ha0 (by decide) ?_
  refine r_aload_n (pc := 9) hX 1 dX0_hits_9 rfl rfl ?_
  refine r_getI (pc := 10) hX dX0_hits_10 fp0_50 ha0 (by decide) ?_
  refine r_aload_n (pc := 13) hX 1 dX0_hits_13 rfl rfl ?_
  refine r_getI (pc := 14) hX dX0_hits_14 fp0_53 ha0 (by decide) ?_
  refine r_cvP (st := []) (pc := 17) hX dX0_hits_17 MI_Box_overlaps MV_Box_overlaps lkX0_88 ho (c_Box_overlaps o (m.1 a0 0) (m.1 a0 1) (m.1 a0 2) (m.1 a0 3) ho m) rfl rfl (Nat.le_of_ble_eq_true rfl) (by decide) (fun v1 => ?_)
  refine r_if_eq (tgt := 25) (pc := 20) hX dX0_hits_20 (by decide) ?_ ?_
  · skip
    refine r_aload_n (pc := 25) hX 0 dX0_hits_25 rfl rfl ?_
    refine r_getI (pc := 26) hX dX0_hits_26 fp0_15 ho (by decide) ?_
    refine r_join (P := fun k => J X (oP m) (k) m 40 [(0, rX X o), (1, rX X a0)] []) ?_ ?_
    · skip
      refine r_aload_n (pc := 40) hX 1 dX0_hits_40 rfl rfl ?_
      refine r_getI (pc := 41) hX dX0_hits_41 fp0_15 ha0 (by decide) ?_
      refine r_join (P := fun k => J X (oP m) (k) m 57 [(0, rX X o), (1, rX X a0)] []) ?_ ?_
      · skip
        refine r_aload_n (pc := 57) hX 0 dX0_hits_57 rfl rfl ?_
        refine r_getI (pc := 58) hX dX0_hits_58 fp0_15 ho (by decide) ?_
        refine r_if_eq (tgt := 83) (pc := 61) hX dX0_hits_61 (by decide) ?_ ?_
        · skip
          refine r_iconst (pc := 83) hX dX0_hits_83 ic_0 ?_
          exact r_zretPk (pc := 84) hX hE dX0_hits_84 (by decide)
        · skip
          refine r_aload_n (pc := 64) hX 1 dX0_hits_64 rfl rfl ?_
          refine r_getI (pc := 65) hX dX0_hits_65 fp0_15 ha0 (by decide) ?_
          refine r_if_eq (tgt := 83) (pc := 68) hX dX0_hits_68 (by decide) ?_ ?_
          · skip
            refine r_iconst (pc := 83) hX dX0_hits_83 ic_0 ?_
            exact r_zretPk (pc := 84) hX hE dX0_hits_84 (by decide)
          · skip
            refine r_aload_n (pc := 71) hX 0 dX0_hits_71 rfl rfl ?_
            refine r_aload_n (pc := 72) hX 1 dX0_hits_72 rfl rfl ?_
            refine r_cvP (st := []) (pc := 73) hX dX0_hits_73 MI_Box_linesMeet MV_Box_linesMeet lkX0_96 ho (c_Box_linesMeet o a0 ho ha0 m) rfl rfl (Nat.le_of_ble_eq_true rfl) (by decide) (fun v2 => ?_)
            refine r_if_eq (tgt := 83) (pc := 76) hX dX0_hits_76 (by decide) ?_ ?_
            · skip
              refine r_iconst (pc := 83) hX dX0_hits_83 ic_0 ?_
              exact r_zretPk (pc := 84) hX hE dX0_hits_84 (by decide)
            · skip
              refine r_iconst (pc := 79) hX dX0_hits_79 ic_1 ?_
              refine r_goto (tgt := 84) (pc := 80) hX dX0_hits_80 (by decide) ?_
              exact r_zretPk (pc := 84) hX hE dX0_hits_84 (by decide)
      intro k57_ hk57_
      refine r_if_eq (tgt := 57) (pc := 44) hX dX0_hits_44 (by decide) ?_ ?_
      · skip
        exact hk57_
      · skip
        refine r_aload_n (pc := 47) hX 1 dX0_hits_47 rfl rfl ?_
        refine r_aload_n (pc := 48) hX 0 dX0_hits_48 rfl rfl ?_
        refine r_cvP (st := []) (pc := 49) hX dX0_hits_49 MI_Box_lineEnters MV_Box_lineEnters lkX0_92 ha0 (c_Box_lineEnters a0 o ha0 ho m) rfl rfl (Nat.le_of_ble_eq_true rfl) (by decide) (fun v3 => ?_)
        refine r_if_eq (tgt := 57) (pc := 52) hX dX0_hits_52 (by decide) ?_ ?_
        · skip
          exact hk57_
        · skip
          refine r_iconst (pc := 55) hX dX0_hits_55 ic_1 ?_
          exact r_zretPk (pc := 56) hX hE dX0_hits_56 (by decide)
    intro k40_ hk40_
    refine r_if_eq (tgt := 40) (pc := 29) hX dX0_hits_29 (by decide) ?_ ?_
    · skip
      exact hk40_
    · skip
      refine r_aload_n (pc := 32) hX 0 dX0_hits_32 rfl rfl ?_
      refine r_aload_n (pc := 33) hX 1 dX0_hits_33 rfl rfl ?_
      refine r_cvP (st := []) (pc := 34) hX dX0_hits_34 MI_Box_lineEnters MV_Box_lineEnters lkX0_92 ho (c_Box_lineEnters o a0 ho ha0 m) rfl rfl (Nat.le_of_ble_eq_true rfl) (by decide) (fun v4 => ?_)
      refine r_if_ne (tgt := 55) (pc := 37) hX dX0_hits_37 (by decide) ?_ ?_
      · skip
        refine r_iconst (pc := 55) hX dX0_hits_55 ic_1 ?_
        exact r_zretPk (pc := 56) hX hE dX0_hits_56 (by decide)
      · skip
        exact hk40_
  · skip
    refine r_iconst (pc := 23) hX dX0_hits_23 ic_1 ?_
    exact r_zretPk (pc := 24) hX hE dX0_hits_24 (by decide)
