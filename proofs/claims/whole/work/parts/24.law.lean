/-! THE CLAIM OUT OF ONE WALK OF THE LAW'S BODY. Your part is whole_start (and what it stands on); all else here is the same for every law, but numbers. -/
def R_law : String := "NameChartLaw"
def lw_P (b : Addr) (xs : List Int32) (args : Array Value) (s : State) : Prop := args = #[.ref b] ∧ s.IntsAt b xs ∧ xs.length ≤ 3072 ∧ (Jvm.Cond.and given_1 narrow_1).before args s = true
def lw_Q (_ : Array Value) (s : State) (o : Outcome) (t : State) : Prop := o = .returned (some (.int 1)) ∧ Framed s o t [] 600000 7302250
def lw_Z (below : List Frame) (a : Array Value) (s : State) : State → Prop := fun t => ∃ o, t.status = .running ∧ Ended t below o ∧ lw_Q a s o t
/-- the law's own end, with 1 on the stack, nothing written that was there before, its room as the claim has it -/
theorem lw_ret {p : Program} {l : Launch} {e : Env} {s : State} {m : MethodId} {below : List Frame} {meth : Method} {c : Code} {b : Nat} (hx : p.tables.exec = Jvm.exec) (hb : c.code = code) (hr : meth.sig.returnType = ret) (hlocks : meth.locks = false) {pc : Nat} {H : Heap} {ls : Array Slot} (hdg : decode code pc = .ok (.ireturn, 1)) : W p l e room_1 s m #[Value.ref b] below meth c H [] 600000 7302250 (lw_Z below #[Value.ref b] s) (F0 m pc ls [.int 1]) := by
  intro T hT X
  obtain ⟨fs, hret, hrun, hended, hW, hframe⟩ := X.leave (v := some (.int 1)) (hlocks := hlocks) (fun h => by rw [hr] at h; cases h)
  have hmeth' : T.vm.method? m = some meth := X.method'
  refine ⟨T.setFrames fs, ?_, .returned (some (.int 1)), hrun, hended, rfl, ⟨_, rfl⟩, hW, hframe⟩
  jvm_step X.here [X.here.top, hx, hb, hdg, hmeth', hr, ret, narrow_b1]
  (try refine ⟨rfl, ?_⟩); (try refine ⟨rfl, ?_⟩)
  first | (intro acts; rw [hret _ acts rfl rfl rfl]) | rw [hret _ _ rfl rfl rfl]
  exact Steps.refl _
/-- what holds at the law's entry: the machine, the code, the tables' words (any of lw_tbl by 'hts w (by decide +kernel)'), the script of L ints xs at the cell b, what the Statement gives of the start (any of its parts by flat_of_before) -/
def lw_At (p : Program) (s : State) (m : MethodId) (meth : Method) (c : Code) (b L : Nat) (xs : Nat → Int32) : Prop :=
  p.tables.exec = Jvm.exec ∧ c.code = code ∧ meth.sig.returnType = ret ∧ c.maxLocals = 4 ∧ s.vm.findClass R_law = some m.cls ∧ (∀ w ∈ lw_tbl, w.before #[Value.ref b] s = true) ∧ va_X b L xs s s.heap ∧ b < s.heap.size ∧ meth.locks = false ∧ (Jvm.Cond.and given_1 narrow_1).before #[Value.ref b] s = true

def Gs (X : Cx) (b sL : Nat) (xs : Nat → Int32) : Prop :=
  match X with
  | (_, _, _, _, s, _, _, _, _, _, _, _, _, A, _, _, _, _, _) => va_X b sL xs s s.heap ∧ b < s.heap.size ∧ ¬ A b
def Gl (X : Cx) (b : Nat) : Prop :=
  match X with
  | (_, _, _, R, s, _, args, below, meth, _, _, _, _, A, _, kc, ks, fin, qq) => args = #[Value.ref b] ∧ R = room_1 ∧ meth.sig.returnType = ret ∧ kc = 600000 ∧ ks = 7302250 ∧ qq = lw_Z below #[Value.ref b] s ∧ fin = (some (.int 1), mZ) ∧ ∀ q, A q → s.heap.size ≤ q
section LROWS
variable {ρ : Type} {X : Cx} {ov : ρ → Option Value × Me} {F : Option ρ} {mm : Me} {pc : Nat} {L : List (Nat × Value)} {st : List Value} {cc : ByteArray} {own : String} {nL fr b sL : Nat} {xs : Nat → Int32}
theorem r_slen (hX : Gd X cc own nL fr) (hs : Gs X b sL xs) (hd : decode cc pc = .ok (.arraylength, 1)) (k : J X ov F mm (pc + 1) L (.int (Int32.ofNat sL) :: st)) : J X ov F mm pc L (.ref b :: st) := by
  obtain ⟨p, l, e, R, s, m, args, below, meth, c, D, cy, ad, A, sad, kc, ks, fin, qq⟩ := X
  obtain ⟨hx, hb, hml, hown, hts, hK, hA, hSt, hlk, hfr, hlo, hkc, hks⟩ := hX
  intro res hF ho H locs ls hP hS hl
  obtain ⟨s1, s2, s3⟩ := hs
  exact va_slen hx hb s1 s2 s3 hS hd (k res hF ho H locs ls hP hS hl)
theorem r_sld {i : Int32} {K : Int32 → Option ρ} (hX : Gd X cc own nL fr) (hs : Gs X b sL xs) (hd : decode cc pc = .ok (.iaload, 1)) (k : ∀ v, J X ov (K v) mm (pc + 1) L (.int v :: st)) : J X ov (rd sL i xs K) mm pc L (.int i :: .ref b :: st) := by
  obtain ⟨p, l, e, R, s, m, args, below, meth, c, D, cy, ad, A, sad, kc, ks, fin, qq⟩ := X
  obtain ⟨hx, hb, hml, hown, hts, hK, hA, hSt, hlk, hfr, hlo, hkc, hks⟩ := hX
  intro res hF ho H locs ls hP hS hl
  obtain ⟨s1, s2, s3⟩ := hs
  unfold rd at hF
  by_cases hi : i < 0 ∨ sL ≤ i.toNatClampNeg
  case pos => rw [if_pos hi] at hF; cases hF
  rw [if_neg hi] at hF
  exact va_sld hx hb s1 s2 s3 hS hi hd (k _ res hF ho H locs ls hP hS hl)
theorem r_lw1 (hX : Gd X code own nL fr) (hG : Gl X b) (hd : decode code pc = .ok (.ireturn, 1)) : J X (oP mZ) (some (1 : Int32)) mm pc L [.int 1] := by
  obtain ⟨p, l, e, R, s, m, args, below, meth, c, D, cy, ad, A, sad, kc, ks, fin, qq⟩ := X
  obtain ⟨hx, hb, hml, hown, hts, hK, hA, hSt, hlk, hfr, hlo, hkc, hks⟩ := hX
  intro res hF ho H locs ls hP hS hl
  obtain ⟨rfl, rfl, g3, rfl, rfl, rfl, -, g7⟩ := hG
  exact va_forget (fun q hq => g7 _ (hS.2.2 q hq)) (lw_ret hx hb g3 hlk hd)
theorem r_lw0 (hX : Gd X code own nL fr) (hG : Gl X b) (hd : decode code pc = .ok (.ireturn, 1)) : J X (oP mZ) (some (0 : Int32)) mm pc L [.int 0] := by
  obtain ⟨p, l, e, R, s, m, args, below, meth, c, D, cy, ad, A, sad, kc, ks, fin, qq⟩ := X
  obtain ⟨hx, hb, hml, hown, hts, hK, hA, hSt, hlk, hfr, hlo, hkc, hks⟩ := hX
  intro res hF ho H locs ls hP hS hl
  obtain ⟨-, -, -, -, -, -, g6, -⟩ := hG
  cases hF
  rw [g6] at ho
  exact absurd ho (by unfold oP; intro q; have := congrArg Prod.fst q; simp at this)
end LROWS

theorem MI_Mo_about : MI yX8_about cX8_about 5 (some .int) 2 := ⟨(tw 1005 (by decide +kernel) rfl), (tw 9 (by decide +kernel) rfl), by decide +kernel, by decide⟩
theorem MI_Mo_at : MI yX8_at cX8_at 4 (some .int) 2 := ⟨(tw 1101 (by decide +kernel) rfl), (tw 9 (by decide +kernel) rfl), by decide +kernel, by decide⟩
theorem MI_Mo_best : MI yX8_best cX8_best 4 (some .int) 0 := ⟨(tw 1045 (by decide +kernel) rfl), (tw 9 (by decide +kernel) rfl), by decide +kernel, by decide⟩
theorem MI_Mo_check : MI yX8_check cX8_check 2 (some .int) 0 := ⟨(tw 1025 (by decide +kernel) rfl), (tw 9 (by decide +kernel) rfl), by decide +kernel, by decide⟩
theorem MI_Mo_chosen : MI yX8_chosen cX8_chosen 2 (some .int) 1 := ⟨(tw 1021 (by decide +kernel) rfl), (tw 9 (by decide +kernel) rfl), by decide +kernel, by decide⟩
theorem MI_Mo_clash : MI yX8_clash cX8_clash 6 (some .int) 5 := ⟨(tw 947 (by decide +kernel) rfl), (tw 9 (by decide +kernel) rfl), by decide +kernel, by decide⟩
theorem MI_Mo_clashes : MI yX8_clashes cX8_clashes 6 (some .int) 2 := ⟨(tw 985 (by decide +kernel) rfl), (tw 9 (by decide +kernel) rfl), by decide +kernel, by decide⟩
theorem MI_Mo_count : MI yX8_count cX8_count 4 (some .int) 1 := ⟨(tw 1109 (by decide +kernel) rfl), (tw 9 (by decide +kernel) rfl), by decide +kernel, by decide⟩
theorem MI_Mo_dot : MI yX8_dot cX8_dot 3 (some .int) 2 := ⟨(tw 895 (by decide +kernel) rfl), (tw 9 (by decide +kernel) rfl), by decide +kernel, by decide⟩
theorem MI_Mo_find : MI yX8_find cX8_find 8 (some .int) 5 := ⟨(tw 1105 (by decide +kernel) rfl), (tw 9 (by decide +kernel) rfl), by decide +kernel, by decide⟩
theorem MI_Mo_free : MI yX8_free cX8_free 3 (some .int) 1 := ⟨(tw 1017 (by decide +kernel) rfl), (tw 9 (by decide +kernel) rfl), by decide +kernel, by decide⟩
theorem MI_Mo_isOf : MI yX8_isOf cX8_isOf 3 (some .int) 2 := ⟨(tw 1009 (by decide +kernel) rfl), (tw 9 (by decide +kernel) rfl), by decide +kernel, by decide⟩
theorem MI_Mo_move : MI yX8_move cX8_move 4 (some .int) 3 := ⟨(tw 899 (by decide +kernel) rfl), (tw 9 (by decide +kernel) rfl), by decide +kernel, by decide⟩
theorem MI_Mo_name : MI yX8_name cX8_name 4 (some .int) 3 := ⟨(tw 877 (by decide +kernel) rfl), (tw 9 (by decide +kernel) rfl), by decide +kernel, by decide⟩
theorem MI_Mo_parts : MI yX8_parts cX8_parts 1 (some .int) 0 := ⟨(tw 989 (by decide +kernel) rfl), (tw 9 (by decide +kernel) rfl), by decide +kernel, by decide⟩
theorem MI_Mo_quick : MI yX8_quick cX8_quick 7 (some .int) 0 := ⟨(tw 1065 (by decide +kernel) rfl), (tw 9 (by decide +kernel) rfl), by decide +kernel, by decide⟩
theorem MI_Mo_set : MI yX8_set cX8_set 4 (some .int) 2 := ⟨(tw 1013 (by decide +kernel) rfl), (tw 9 (by decide +kernel) rfl), by decide +kernel, by decide⟩
theorem MI_Mo_size : MI yX8_size cX8_size 4 (some .int) 3 := ⟨(tw 911 (by decide +kernel) rfl), (tw 9 (by decide +kernel) rfl), by decide +kernel, by decide⟩
theorem MI_Mo_slack : MI yX8_slack cX8_slack 5 (some .int) 0 := ⟨(tw 1081 (by decide +kernel) rfl), (tw 9 (by decide +kernel) rfl), by decide +kernel, by decide⟩
theorem MI_Mo_steady : MI yX8_steady cX8_steady 3 (some .int) 2 := ⟨(tw 1085 (by decide +kernel) rfl), (tw 9 (by decide +kernel) rfl), by decide +kernel, by decide⟩
theorem MI_Mo_there : MI yX8_there cX8_there 4 (some .int) 1 := ⟨(tw 1097 (by decide +kernel) rfl), (tw 9 (by decide +kernel) rfl), by decide +kernel, by decide⟩
theorem MI_Mo_undo : MI yX8_undo cX8_undo 1 (some .int) 0 := ⟨(tw 869 (by decide +kernel) rfl), (tw 9 (by decide +kernel) rfl), by decide +kernel, by decide⟩
theorem MI_Mo_way : MI yX8_way cX8_way 5 (some .int) 4 := ⟨(tw 915 (by decide +kernel) rfl), (tw 9 (by decide +kernel) rfl), by decide +kernel, by decide⟩
theorem MI_Mo_weigh : MI yX8_weigh cX8_weigh 4 (some .int) 2 := ⟨(tw 907 (by decide +kernel) rfl), (tw 9 (by decide +kernel) rfl), by decide +kernel, by decide⟩
theorem MI_Mo_why : MI yX8_why cX8_why 3 (some .int) 2 := ⟨(tw 1077 (by decide +kernel) rfl), (tw 9 (by decide +kernel) rfl), by decide +kernel, by decide⟩
theorem MI_Mo_worth : MI yX8_worth cX8_worth 1 (some .int) 0 := ⟨(tw 1033 (by decide +kernel) rfl), (tw 9 (by decide +kernel) rfl), by decide +kernel, by decide⟩
theorem MI_NC_about : MI yX7_about cX7_about 3 (some .int) 2 := ⟨(tw 359 (by decide +kernel) rfl), (tw 1 (by decide +kernel) rfl), by decide +kernel, by decide⟩
theorem MI_NC_at : MI yX7_at cX7_at 4 (some .int) 2 := ⟨(tw 722 (by decide +kernel) rfl), (tw 1 (by decide +kernel) rfl), by decide +kernel, by decide⟩
theorem MI_NC_best : MI yX7_best cX7_best 4 (some .int) 0 := ⟨(tw 573 (by decide +kernel) rfl), (tw 1 (by decide +kernel) rfl), by decide +kernel, by decide⟩
theorem MI_NC_check : MI yX7_check cX7_check 4 (some .int) 0 := ⟨(tw 542 (by decide +kernel) rfl), (tw 1 (by decide +kernel) rfl), by decide +kernel, by decide⟩
theorem MI_NC_chosen : MI yX7_chosen cX7_chosen 2 (some .int) 1 := ⟨(tw 538 (by decide +kernel) rfl), (tw 1 (by decide +kernel) rfl), by decide +kernel, by decide⟩
theorem MI_NC_clash : MI yX7_clash cX7_clash 6 (some .int) 5 := ⟨(tw 513 (by decide +kernel) rfl), (tw 1 (by decide +kernel) rfl), by decide +kernel, by decide⟩
theorem MI_NC_clashes : MI yX7_clashes cX7_clashes 5 (some .int) 2 := ⟨(tw 518 (by decide +kernel) rfl), (tw 1 (by decide +kernel) rfl), by decide +kernel, by decide⟩
theorem MI_NC_count : MI yX7_count cX7_count 2 (some .int) 1 := ⟨(tw 740 (by decide +kernel) rfl), (tw 1 (by decide +kernel) rfl), by decide +kernel, by decide⟩
theorem MI_NC_dot : MI yX7_dot cX7_dot 3 (some .int) 2 := ⟨(tw 335 (by decide +kernel) rfl), (tw 1 (by decide +kernel) rfl), by decide +kernel, by decide⟩
theorem MI_NC_find : MI yX7_find cX7_find 8 (some .int) 5 := ⟨(tw 727 (by decide +kernel) rfl), (tw 1 (by decide +kernel) rfl), by decide +kernel, by decide⟩
theorem MI_NC_free : MI yX7_free cX7_free 3 (some .int) 1 := ⟨(tw 534 (by decide +kernel) rfl), (tw 1 (by decide +kernel) rfl), by decide +kernel, by decide⟩
theorem MI_NC_isOf : MI yX7_isOf cX7_isOf 3 (some .int) 2 := ⟨(tw 486 (by decide +kernel) rfl), (tw 1 (by decide +kernel) rfl), by decide +kernel, by decide⟩
theorem MI_NC_move : MI yX7_move cX7_move 4 (some .int) 3 := ⟨(tw 343 (by decide +kernel) rfl), (tw 1 (by decide +kernel) rfl), by decide +kernel, by decide⟩
theorem MI_NC_name : MI yX7_name cX7_name 4 (some .int) 3 := ⟨(tw 296 (by decide +kernel) rfl), (tw 1 (by decide +kernel) rfl), by decide +kernel, by decide⟩
theorem MI_NC_parts : MI yX7_parts cX7_parts 1 (some .int) 0 := ⟨(tw 526 (by decide +kernel) rfl), (tw 1 (by decide +kernel) rfl), by decide +kernel, by decide⟩
theorem MI_NC_quick : MI yX7_quick cX7_quick 3 (some .int) 0 := ⟨(tw 667 (by decide +kernel) rfl), (tw 1 (by decide +kernel) rfl), by decide +kernel, by decide⟩
theorem MI_NC_set : MI yX7_set cX7_set 4 (some .int) 2 := ⟨(tw 530 (by decide +kernel) rfl), (tw 1 (by decide +kernel) rfl), by decide +kernel, by decide⟩
theorem MI_NC_size : MI yX7_size cX7_size 4 (some .int) 3 := ⟨(tw 355 (by decide +kernel) rfl), (tw 1 (by decide +kernel) rfl), by decide +kernel, by decide⟩
theorem MI_NC_slack : MI yX7_slack cX7_slack 5 (some .int) 0 := ⟨(tw 687 (by decide +kernel) rfl), (tw 1 (by decide +kernel) rfl), by decide +kernel, by decide⟩
theorem MI_NC_steady : MI yX7_steady cX7_steady 3 (some .int) 2 := ⟨(tw 691 (by decide +kernel) rfl), (tw 1 (by decide +kernel) rfl), by decide +kernel, by decide⟩
theorem MI_NC_there : MI yX7_there cX7_there 4 (some .int) 1 := ⟨(tw 717 (by decide +kernel) rfl), (tw 1 (by decide +kernel) rfl), by decide +kernel, by decide⟩
theorem MI_NC_undo : MI yX7_undo cX7_undo 1 (some .int) 0 := ⟨(tw 732 (by decide +kernel) rfl), (tw 1 (by decide +kernel) rfl), by decide +kernel, by decide⟩
theorem MI_NC_way : MI yX7_way cX7_way 5 (some .int) 4 := ⟨(tw 494 (by decide +kernel) rfl), (tw 1 (by decide +kernel) rfl), by decide +kernel, by decide⟩
theorem MI_NC_weigh : MI yX7_weigh cX7_weigh 4 (some .int) 2 := ⟨(tw 351 (by decide +kernel) rfl), (tw 1 (by decide +kernel) rfl), by decide +kernel, by decide⟩
theorem MI_NC_why : MI yX7_why cX7_why 3 (some .int) 2 := ⟨(tw 683 (by decide +kernel) rfl), (tw 1 (by decide +kernel) rfl), by decide +kernel, by decide⟩
theorem MI_NC_worth : MI yX7_worth cX7_worth 3 (some .int) 0 := ⟨(tw 564 (by decide +kernel) rfl), (tw 1 (by decide +kernel) rfl), by decide +kernel, by decide⟩
theorem MV_Mo_about : MV yX8_about 8 := ⟨(tw 1003 (by decide +kernel) rfl), (tw 1004 (by decide +kernel) rfl), _, _, rfl⟩
theorem MV_Mo_at : MV yX8_at 8 := ⟨(tw 1099 (by decide +kernel) rfl), (tw 1100 (by decide +kernel) rfl), _, _, rfl⟩
theorem MV_Mo_best : MV yX8_best 8 := ⟨(tw 1043 (by decide +kernel) rfl), (tw 1044 (by decide +kernel) rfl), _, _, rfl⟩
theorem MV_Mo_check : MV yX8_check 8 := ⟨(tw 1023 (by decide +kernel) rfl), (tw 1024 (by decide +kernel) rfl), _, _, rfl⟩
theorem MV_Mo_chosen : MV yX8_chosen 8 := ⟨(tw 1019 (by decide +kernel) rfl), (tw 1020 (by decide +kernel) rfl), _, _, rfl⟩
theorem MV_Mo_clash : MV yX8_clash 8 := ⟨(tw 945 (by decide +kernel) rfl), (tw 946 (by decide +kernel) rfl), _, _, rfl⟩
theorem MV_Mo_clashes : MV yX8_clashes 8 := ⟨(tw 983 (by decide +kernel) rfl), (tw 984 (by decide +kernel) rfl), _, _, rfl⟩
theorem MV_Mo_count : MV yX8_count 8 := ⟨(tw 1107 (by decide +kernel) rfl), (tw 1108 (by decide +kernel) rfl), _, _, rfl⟩
theorem MV_Mo_dot : MV yX8_dot 8 := ⟨(tw 893 (by decide +kernel) rfl), (tw 894 (by decide +kernel) rfl), _, _, rfl⟩
theorem MV_Mo_find : MV yX8_find 8 := ⟨(tw 1103 (by decide +kernel) rfl), (tw 1104 (by decide +kernel) rfl), _, _, rfl⟩
theorem MV_Mo_free : MV yX8_free 8 := ⟨(tw 1015 (by decide +kernel) rfl), (tw 1016 (by decide +kernel) rfl), _, _, rfl⟩
theorem MV_Mo_isOf : MV yX8_isOf 8 := ⟨(tw 1007 (by decide +kernel) rfl), (tw 1008 (by decide +kernel) rfl), _, _, rfl⟩
theorem MV_Mo_move : MV yX8_move 8 := ⟨(tw 897 (by decide +kernel) rfl), (tw 898 (by decide +kernel) rfl), _, _, rfl⟩
theorem MV_Mo_name : MV yX8_name 8 := ⟨(tw 875 (by decide +kernel) rfl), (tw 876 (by decide +kernel) rfl), _, _, rfl⟩
theorem MV_Mo_parts : MV yX8_parts 8 := ⟨(tw 987 (by decide +kernel) rfl), (tw 988 (by decide +kernel) rfl), _, _, rfl⟩
theorem MV_Mo_quick : MV yX8_quick 8 := ⟨(tw 1063 (by decide +kernel) rfl), (tw 1064 (by decide +kernel) rfl), _, _, rfl⟩
theorem MV_Mo_set : MV yX8_set 8 := ⟨(tw 1011 (by decide +kernel) rfl), (tw 1012 (by decide +kernel) rfl), _, _, rfl⟩
theorem MV_Mo_size : MV yX8_size 8 := ⟨(tw 909 (by decide +kernel) rfl), (tw 910 (by decide +kernel) rfl), _, _, rfl⟩
theorem MV_Mo_slack : MV yX8_slack 8 := ⟨(tw 1079 (by decide +kernel) rfl), (tw 1080 (by decide +kernel) rfl), _, _, rfl⟩
theorem MV_Mo_steady : MV yX8_steady 8 := ⟨(tw 1083 (by decide +kernel) rfl), (tw 1084 (by decide +kernel) rfl), _, _, rfl⟩
theorem MV_Mo_there : MV yX8_there 8 := ⟨(tw 1095 (by decide +kernel) rfl), (tw 1096 (by decide +kernel) rfl), _, _, rfl⟩
theorem MV_Mo_undo : MV yX8_undo 8 := ⟨(tw 867 (by decide +kernel) rfl), (tw 868 (by decide +kernel) rfl), _, _, rfl⟩
theorem MV_Mo_way : MV yX8_way 8 := ⟨(tw 913 (by decide +kernel) rfl), (tw 914 (by decide +kernel) rfl), _, _, rfl⟩
theorem MV_Mo_weigh : MV yX8_weigh 8 := ⟨(tw 905 (by decide +kernel) rfl), (tw 906 (by decide +kernel) rfl), _, _, rfl⟩
theorem MV_Mo_why : MV yX8_why 8 := ⟨(tw 1075 (by decide +kernel) rfl), (tw 1076 (by decide +kernel) rfl), _, _, rfl⟩
theorem MV_Mo_worth : MV yX8_worth 8 := ⟨(tw 1031 (by decide +kernel) rfl), (tw 1032 (by decide +kernel) rfl), _, _, rfl⟩
theorem MV_NC_about : MV yX7_about 7 := ⟨(tw 357 (by decide +kernel) rfl), (tw 358 (by decide +kernel) rfl), _, _, rfl⟩
theorem MV_NC_at : MV yX7_at 7 := ⟨(tw 720 (by decide +kernel) rfl), (tw 721 (by decide +kernel) rfl), _, _, rfl⟩
theorem MV_NC_best : MV yX7_best 7 := ⟨(tw 571 (by decide +kernel) rfl), (tw 572 (by decide +kernel) rfl), _, _, rfl⟩
theorem MV_NC_check : MV yX7_check 7 := ⟨(tw 540 (by decide +kernel) rfl), (tw 541 (by decide +kernel) rfl), _, _, rfl⟩
theorem MV_NC_chosen : MV yX7_chosen 7 := ⟨(tw 536 (by decide +kernel) rfl), (tw 537 (by decide +kernel) rfl), _, _, rfl⟩
theorem MV_NC_clash : MV yX7_clash 7 := ⟨(tw 511 (by decide +kernel) rfl), (tw 512 (by decide +kernel) rfl), _, _, rfl⟩
theorem MV_NC_clashes : MV yX7_clashes 7 := ⟨(tw 516 (by decide +kernel) rfl), (tw 517 (by decide +kernel) rfl), _, _, rfl⟩
theorem MV_NC_count : MV yX7_count 7 := ⟨(tw 738 (by decide +kernel) rfl), (tw 739 (by decide +kernel) rfl), _, _, rfl⟩
theorem MV_NC_dot : MV yX7_dot 7 := ⟨(tw 333 (by decide +kernel) rfl), (tw 334 (by decide +kernel) rfl), _, _, rfl⟩
theorem MV_NC_find : MV yX7_find 7 := ⟨(tw 725 (by decide +kernel) rfl), (tw 726 (by decide +kernel) rfl), _, _, rfl⟩
theorem MV_NC_free : MV yX7_free 7 := ⟨(tw 532 (by decide +kernel) rfl), (tw 533 (by decide +kernel) rfl), _, _, rfl⟩
theorem MV_NC_isOf : MV yX7_isOf 7 := ⟨(tw 484 (by decide +kernel) rfl), (tw 485 (by decide +kernel) rfl), _, _, rfl⟩
theorem MV_NC_move : MV yX7_move 7 := ⟨(tw 341 (by decide +kernel) rfl), (tw 342 (by decide +kernel) rfl), _, _, rfl⟩
theorem MV_NC_name : MV yX7_name 7 := ⟨(tw 294 (by decide +kernel) rfl), (tw 295 (by decide +kernel) rfl), _, _, rfl⟩
theorem MV_NC_parts : MV yX7_parts 7 := ⟨(tw 524 (by decide +kernel) rfl), (tw 525 (by decide +kernel) rfl), _, _, rfl⟩
theorem MV_NC_quick : MV yX7_quick 7 := ⟨(tw 665 (by decide +kernel) rfl), (tw 666 (by decide +kernel) rfl), _, _, rfl⟩
theorem MV_NC_set : MV yX7_set 7 := ⟨(tw 528 (by decide +kernel) rfl), (tw 529 (by decide +kernel) rfl), _, _, rfl⟩
theorem MV_NC_size : MV yX7_size 7 := ⟨(tw 353 (by decide +kernel) rfl), (tw 354 (by decide +kernel) rfl), _, _, rfl⟩
theorem MV_NC_slack : MV yX7_slack 7 := ⟨(tw 685 (by decide +kernel) rfl), (tw 686 (by decide +kernel) rfl), _, _, rfl⟩
theorem MV_NC_steady : MV yX7_steady 7 := ⟨(tw 689 (by decide +kernel) rfl), (tw 690 (by decide +kernel) rfl), _, _, rfl⟩
theorem MV_NC_there : MV yX7_there 7 := ⟨(tw 715 (by decide +kernel) rfl), (tw 716 (by decide +kernel) rfl), _, _, rfl⟩
theorem MV_NC_undo : MV yX7_undo 7 := ⟨(tw 730 (by decide +kernel) rfl), (tw 731 (by decide +kernel) rfl), _, _, rfl⟩
theorem MV_NC_way : MV yX7_way 7 := ⟨(tw 492 (by decide +kernel) rfl), (tw 493 (by decide +kernel) rfl), _, _, rfl⟩
theorem MV_NC_weigh : MV yX7_weigh 7 := ⟨(tw 349 (by decide +kernel) rfl), (tw 350 (by decide +kernel) rfl), _, _, rfl⟩
theorem MV_NC_why : MV yX7_why 7 := ⟨(tw 681 (by decide +kernel) rfl), (tw 682 (by decide +kernel) rfl), _, _, rfl⟩
theorem MV_NC_worth : MV yX7_worth 7 := ⟨(tw 562 (by decide +kernel) rfl), (tw 563 (by decide +kernel) rfl), _, _, rfl⟩
theorem bp_31 : (Int8.ofInt (31)).toInt32 = (31 : Int32) := by decide
theorem lkL_102 : Cond.methodLink RL 102 yX8_steady ∈ gt := (tw 1082 (by decide +kernel) rfl)
theorem lkL_103 : Cond.methodLink RL 103 yX7_there ∈ gt := (tw 714 (by decide +kernel) rfl)
theorem lkL_106 : Cond.methodLink RL 106 yX8_there ∈ gt := (tw 1094 (by decide +kernel) rfl)
theorem lkL_107 : Cond.methodLink RL 107 yX7_at ∈ gt := (tw 719 (by decide +kernel) rfl)
theorem lkL_110 : Cond.methodLink RL 110 yX8_at ∈ gt := (tw 1098 (by decide +kernel) rfl)
theorem lkL_111 : Cond.methodLink RL 111 yX7_find ∈ gt := (tw 724 (by decide +kernel) rfl)
theorem lkL_114 : Cond.methodLink RL 114 yX8_find ∈ gt := (tw 1102 (by decide +kernel) rfl)
theorem lkL_115 : Cond.methodLink RL 115 yX7_undo ∈ gt := (tw 729 (by decide +kernel) rfl)
theorem lkL_118 : Cond.methodLink RL 118 yX8_undo ∈ gt := (tw 866 (by decide +kernel) rfl)
theorem lkL_119 : Cond.methodLink RL 119 yX7_count ∈ gt := (tw 737 (by decide +kernel) rfl)
theorem lkL_122 : Cond.methodLink RL 122 yX8_count ∈ gt := (tw 1106 (by decide +kernel) rfl)
theorem lkL_13 : Cond.methodLink RL 13 yX7_name ∈ gt := (tw 293 (by decide +kernel) rfl)
theorem lkL_17 : Cond.methodLink RL 17 yX8_name ∈ gt := (tw 874 (by decide +kernel) rfl)
theorem lkL_18 : Cond.methodLink RL 18 yX7_dot ∈ gt := (tw 332 (by decide +kernel) rfl)
theorem lkL_22 : Cond.methodLink RL 22 yX8_dot ∈ gt := (tw 892 (by decide +kernel) rfl)
theorem lkL_23 : Cond.methodLink RL 23 yX7_move ∈ gt := (tw 340 (by decide +kernel) rfl)
theorem lkL_26 : Cond.methodLink RL 26 yX8_move ∈ gt := (tw 896 (by decide +kernel) rfl)
theorem lkL_27 : Cond.methodLink RL 27 yX7_weigh ∈ gt := (tw 348 (by decide +kernel) rfl)
theorem lkL_30 : Cond.methodLink RL 30 yX8_weigh ∈ gt := (tw 904 (by decide +kernel) rfl)
theorem lkL_31 : Cond.methodLink RL 31 yX7_size ∈ gt := (tw 352 (by decide +kernel) rfl)
theorem lkL_34 : Cond.methodLink RL 34 yX8_size ∈ gt := (tw 908 (by decide +kernel) rfl)
theorem lkL_35 : Cond.methodLink RL 35 yX7_about ∈ gt := (tw 356 (by decide +kernel) rfl)
theorem lkL_38 : Cond.methodLink RL 38 yX8_about ∈ gt := (tw 1002 (by decide +kernel) rfl)
theorem lkL_39 : Cond.methodLink RL 39 yX7_isOf ∈ gt := (tw 483 (by decide +kernel) rfl)
theorem lkL_42 : Cond.methodLink RL 42 yX8_isOf ∈ gt := (tw 1006 (by decide +kernel) rfl)
theorem lkL_43 : Cond.methodLink RL 43 yX7_way ∈ gt := (tw 491 (by decide +kernel) rfl)
theorem lkL_47 : Cond.methodLink RL 47 yX8_way ∈ gt := (tw 912 (by decide +kernel) rfl)
theorem lkL_48 : Cond.methodLink RL 48 yX7_clash ∈ gt := (tw 510 (by decide +kernel) rfl)
theorem lkL_52 : Cond.methodLink RL 52 yX8_clash ∈ gt := (tw 944 (by decide +kernel) rfl)
theorem lkL_53 : Cond.methodLink RL 53 yX7_clashes ∈ gt := (tw 515 (by decide +kernel) rfl)
theorem lkL_56 : Cond.methodLink RL 56 yX8_clashes ∈ gt := (tw 982 (by decide +kernel) rfl)
theorem lkL_57 : Cond.methodLink RL 57 yX7_parts ∈ gt := (tw 523 (by decide +kernel) rfl)
theorem lkL_61 : Cond.methodLink RL 61 yX8_parts ∈ gt := (tw 986 (by decide +kernel) rfl)
theorem lkL_62 : Cond.methodLink RL 62 yX7_set ∈ gt := (tw 527 (by decide +kernel) rfl)
theorem lkL_65 : Cond.methodLink RL 65 yX8_set ∈ gt := (tw 1010 (by decide +kernel) rfl)
theorem lkL_66 : Cond.methodLink RL 66 yX7_free ∈ gt := (tw 531 (by decide +kernel) rfl)
theorem lkL_70 : Cond.methodLink RL 70 yX8_free ∈ gt := (tw 1014 (by decide +kernel) rfl)
theorem lkL_71 : Cond.methodLink RL 71 yX7_chosen ∈ gt := (tw 535 (by decide +kernel) rfl)
theorem lkL_74 : Cond.methodLink RL 74 yX8_chosen ∈ gt := (tw 1018 (by decide +kernel) rfl)
theorem lkL_75 : Cond.methodLink RL 75 yX7_check ∈ gt := (tw 539 (by decide +kernel) rfl)
theorem lkL_78 : Cond.methodLink RL 78 yX8_check ∈ gt := (tw 1022 (by decide +kernel) rfl)
theorem lkL_79 : Cond.methodLink RL 79 yX7_worth ∈ gt := (tw 561 (by decide +kernel) rfl)
theorem lkL_82 : Cond.methodLink RL 82 yX8_worth ∈ gt := (tw 1030 (by decide +kernel) rfl)
theorem lkL_83 : Cond.methodLink RL 83 yX7_best ∈ gt := (tw 570 (by decide +kernel) rfl)
theorem lkL_86 : Cond.methodLink RL 86 yX8_best ∈ gt := (tw 1042 (by decide +kernel) rfl)
theorem lkL_87 : Cond.methodLink RL 87 yX7_quick ∈ gt := (tw 664 (by decide +kernel) rfl)
theorem lkL_90 : Cond.methodLink RL 90 yX8_quick ∈ gt := (tw 1062 (by decide +kernel) rfl)
theorem lkL_91 : Cond.methodLink RL 91 yX7_why ∈ gt := (tw 680 (by decide +kernel) rfl)
theorem lkL_94 : Cond.methodLink RL 94 yX8_why ∈ gt := (tw 1074 (by decide +kernel) rfl)
theorem lkL_95 : Cond.methodLink RL 95 yX7_slack ∈ gt := (tw 684 (by decide +kernel) rfl)
theorem lkL_98 : Cond.methodLink RL 98 yX8_slack ∈ gt := (tw 1078 (by decide +kernel) rfl)
theorem lkL_99 : Cond.methodLink RL 99 yX7_steady ∈ gt := (tw 688 (by decide +kernel) rfl)
def lb_Law_law_18 (sL : Nat) (xs : Nat → Int32) (s18 : Int32 → Me → Option Int32) (v1 : Int32) (m2 : Me) : Option Int32 := if (((Int32.ofNat sL)) - (6 : Int32)) < v1 then some (1 : Int32) else rd sL v1 xs (fun v3 => bd ((v3 &&& (31 : Int32))) (fun v4 => bd (fun (m5 : Me) => bd (v1 + Int32.ofInt (6)) (fun v6 => (s18 v6 m5))) (fun k940_ => if v4 = (0 : Int32) then rd sL (v1 + (1 : Int32)) xs (fun v7 => rd sL (v1 + (2 : Int32)) xs (fun v8 => rd sL (v1 + (3 : Int32)) xs (fun v9 => cI (f_NC_name v7 v8 v9 m2) (fun v10 m11 => rd sL (v1 + (1 : Int32)) xs (fun v12 => rd sL (v1 + (2 : Int32)) xs (fun v13 => rd sL (v1 + (3 : Int32)) xs (fun v14 => cI (f_Mo_name v12 v13 v14 m11) (fun v15 m16 => if v10 = v15 then (k940_ m16) else some (0 : Int32))))))))) else if v4 = (1 : Int32) then rd sL (v1 + (1 : Int32)) xs (fun v17 => rd sL (v1 + (2 : Int32)) xs (fun v18 => cI (f_NC_dot v17 v18 m2) (fun v19 m20 => rd sL (v1 + (1 : Int32)) xs (fun v21 => rd sL (v1 + (2 : Int32)) xs (fun v22 => cI (f_Mo_dot v21 v22 m20) (fun v23 m24 => if v19 = v23 then (k940_ m24) else some (0 : Int32))))))) else if v4 = (2 : Int32) then rd sL (v1 + (1 : Int32)) xs (fun v25 => rd sL (v1 + (2 : Int32)) xs (fun v26 => rd sL (v1 + (3 : Int32)) xs (fun v27 => cI (f_NC_move v25 v26 v27 m2) (fun v28 m29 => rd sL (v1 + (1 : Int32)) xs (fun v30 => rd sL (v1 + (2 : Int32)) xs (fun v31 => rd sL (v1 + (3 : Int32)) xs (fun v32 => cI (f_Mo_move v30 v31 v32 m29) (fun v33 m34 => if v28 = v33 then (k940_ m34) else some (0 : Int32))))))))) else if v4 = (3 : Int32) then rd sL (v1 + (1 : Int32)) xs (fun v35 => rd sL (v1 + (2 : Int32)) xs (fun v36 => cI (f_NC_weigh v35 v36 m2) (fun v37 m38 => rd sL (v1 + (1 : Int32)) xs (fun v39 => rd sL (v1 + (2 : Int32)) xs (fun v40 => cI (f_Mo_weigh v39 v40 m38) (fun v41 m42 => if v37 = v41 then (k940_ m42) else some (0 : Int32))))))) else if v4 = (4 : Int32) then rd sL (v1 + (1 : Int32)) xs (fun v43 => rd sL (v1 + (2 : Int32)) xs (fun v44 => rd sL (v1 + (3 : Int32)) xs (fun v45 => cI (f_NC_size v43 v44 v45 m2) (fun v46 m47 => rd sL (v1 + (1 : Int32)) xs (fun v48 => rd sL (v1 + (2 : Int32)) xs (fun v49 => rd sL (v1 + (3 : Int32)) xs (fun v50 => cI (f_Mo_size v48 v49 v50 m47) (fun v51 m52 => if v46 = v51 then (k940_ m52) else some (0 : Int32))))))))) else if v4 = (5 : Int32) then rd sL (v1 + (1 : Int32)) xs (fun v53 => rd sL (v1 + (2 : Int32)) xs (fun v54 => cI (f_NC_about v53 v54 m2) (fun v55 m56 => rd sL (v1 + (1 : Int32)) xs (fun v57 => rd sL (v1 + (2 : Int32)) xs (fun v58 => cI (f_Mo_about v57 v58 m56) (fun v59 m60 => if v55 = v59 then (k940_ m60) else some (0 : Int32))))))) else if v4 = (6 : Int32) then rd sL (v1 + (1 : Int32)) xs (fun v61 => rd sL (v1 + (2 : Int32)) xs (fun v62 => cP (f_NC_isOf v61 v62 m2) (fun v63 => rd sL (v1 + (1 : Int32)) xs (fun v64 => rd sL (v1 + (2 : Int32)) xs (fun v65 => cI (f_Mo_isOf v64 v65 m2) (fun v66 m67 => if v63 = v66 then (k940_ m67) else some (0 : Int32))))))) else if v4 = (7 : Int32) then rd sL (v1 + (1 : Int32)) xs (fun v68 => rd sL (v1 + (2 : Int32)) xs (fun v69 => rd sL (v1 + (3 : Int32)) xs (fun v70 => rd sL (v1 + (4 : Int32)) xs (fun v71 => cI (f_NC_way v68 v69 v70 v71 m2) (fun v72 m73 => rd sL (v1 + (1 : Int32)) xs (fun v74 => rd sL (v1 + (2 : Int32)) xs (fun v75 => rd sL (v1 + (3 : Int32)) xs (fun v76 => rd sL (v1 + (4 : Int32)) xs (fun v77 => cI (f_Mo_way v74 v75 v76 v77 m73) (fun v78 m79 => if v72 = v78 then (k940_ m79) else some (0 : Int32))))))))))) else if v4 = (8 : Int32) then rd sL (v1 + (1 : Int32)) xs (fun v80 => rd sL (v1 + (2 : Int32)) xs (fun v81 => rd sL (v1 + (3 : Int32)) xs (fun v82 => rd sL (v1 + (4 : Int32)) xs (fun v83 => rd sL (v1 + (5 : Int32)) xs (fun v84 => cI (f_NC_clash v80 v81 v82 v83 v84 m2) (fun v85 m86 => rd sL (v1 + (1 : Int32)) xs (fun v87 => rd sL (v1 + (2 : Int32)) xs (fun v88 => rd sL (v1 + (3 : Int32)) xs (fun v89 => rd sL (v1 + (4 : Int32)) xs (fun v90 => rd sL (v1 + (5 : Int32)) xs (fun v91 => cI (f_Mo_clash v87 v88 v89 v90 v91 m86) (fun v92 m93 => if v85 = v92 then (k940_ m93) else some (0 : Int32))))))))))))) else if v4 = (9 : Int32) then rd sL (v1 + (1 : Int32)) xs (fun v94 => rd sL (v1 + (2 : Int32)) xs (fun v95 => cI (f_NC_clashes v94 v95 m2) (fun v96 m97 => rd sL (v1 + (1 : Int32)) xs (fun v98 => rd sL (v1 + (2 : Int32)) xs (fun v99 => cI (f_Mo_clashes v98 v99 m97) (fun v100 m101 => if v96 = v100 then (k940_ m101) else some (0 : Int32))))))) else if v4 = (10 : Int32) then cI (f_NC_parts m2) (fun v102 m103 => cI (f_Mo_parts m103) (fun v104 m105 => if v102 = v104 then (k940_ m105) else some (0 : Int32))) else if v4 = (11 : Int32) then rd sL (v1 + (1 : Int32)) xs (fun v106 => rd sL (v1 + (2 : Int32)) xs (fun v107 => cI (f_NC_set v106 v107 m2) (fun v108 m109 => rd sL (v1 + (1 : Int32)) xs (fun v110 => rd sL (v1 + (2 : Int32)) xs (fun v111 => cI (f_Mo_set v110 v111 m109) (fun v112 m113 => if v108 = v112 then (k940_ m113) else some (0 : Int32))))))) else if v4 = (12 : Int32) then rd sL (v1 + (1 : Int32)) xs (fun v114 => cI (f_NC_free v114 m2) (fun v115 m116 => rd sL (v1 + (1 : Int32)) xs (fun v117 => cI (f_Mo_free v117 m116) (fun v118 m119 => if v115 = v118 then (k940_ m119) else some (0 : Int32))))) else if v4 = (13 : Int32) then rd sL (v1 + (1 : Int32)) xs (fun v120 => cP (f_NC_chosen v120 m2) (fun v121 => rd sL (v1 + (1 : Int32)) xs (fun v122 => cI (f_Mo_chosen v122 m2) (fun v123 m124 => if v121 = v123 then (k940_ m124) else some (0 : Int32))))) else if v4 = (14 : Int32) then cI (f_NC_check m2) (fun v125 m126 => cI (f_Mo_check m126) (fun v127 m128 => if v125 = v127 then (k940_ m128) else some (0 : Int32))) else if v4 = (15 : Int32) then cP (f_NC_worth m2) (fun v129 => cI (f_Mo_worth m2) (fun v130 m131 => if v129 = v130 then (k940_ m131) else some (0 : Int32))) else if v4 = (16 : Int32) then cI (f_NC_best m2) (fun v132 m133 => cI (f_Mo_best m133) (fun v134 m135 => if v132 = v134 then (k940_ m135) else some (0 : Int32))) else if v4 = (17 : Int32) then cI (f_NC_quick m2) (fun v136 m137 => cI (f_Mo_quick m137) (fun v138 m139 => if v136 = v138 then (k940_ m139) else some (0 : Int32))) else if v4 = (18 : Int32) then rd sL (v1 + (1 : Int32)) xs (fun v140 => rd sL (v1 + (2 : Int32)) xs (fun v141 => cI (f_NC_why v140 v141 m2) (fun v142 m143 => rd sL (v1 + (1 : Int32)) xs (fun v144 => rd sL (v1 + (2 : Int32)) xs (fun v145 => cI (f_Mo_why v144 v145 m143) (fun v146 m147 => if v142 = v146 then (k940_ m147) else some (0 : Int32))))))) else if v4 = (19 : Int32) then cI (f_NC_slack m2) (fun v148 m149 => cI (f_Mo_slack m149) (fun v150 m151 => if v148 = v150 then (k940_ m151) else some (0 : Int32))) else if v4 = (20 : Int32) then rd sL (v1 + (1 : Int32)) xs (fun v152 => rd sL (v1 + (2 : Int32)) xs (fun v153 => cI (f_NC_steady v152 v153 m2) (fun v154 m155 => rd sL (v1 + (1 : Int32)) xs (fun v156 => rd sL (v1 + (2 : Int32)) xs (fun v157 => cI (f_Mo_steady v156 v157 m155) (fun v158 m159 => if v154 = v158 then (k940_ m159) else some (0 : Int32))))))) else if v4 = (21 : Int32) then rd sL (v1 + (1 : Int32)) xs (fun v160 => cI (f_NC_there v160 m2) (fun v161 m162 => rd sL (v1 + (1 : Int32)) xs (fun v163 => cI (f_Mo_there v163 m162) (fun v164 m165 => if v161 = v164 then (k940_ m165) else some (0 : Int32))))) else if v4 = (22 : Int32) then rd sL (v1 + (1 : Int32)) xs (fun v166 => rd sL (v1 + (2 : Int32)) xs (fun v167 => cI (f_NC_at v166 v167 m2) (fun v168 m169 => rd sL (v1 + (1 : Int32)) xs (fun v170 => rd sL (v1 + (2 : Int32)) xs (fun v171 => cI (f_Mo_at v170 v171 m169) (fun v172 m173 => if v168 = v172 then (k940_ m173) else some (0 : Int32))))))) else if v4 = (23 : Int32) then rd sL (v1 + (1 : Int32)) xs (fun v174 => rd sL (v1 + (2 : Int32)) xs (fun v175 => rd sL (v1 + (3 : Int32)) xs (fun v176 => rd sL (v1 + (4 : Int32)) xs (fun v177 => rd sL (v1 + (5 : Int32)) xs (fun v178 => cI (f_NC_find v174 v175 v176 v177 v178 m2) (fun v179 m180 => rd sL (v1 + (1 : Int32)) xs (fun v181 => rd sL (v1 + (2 : Int32)) xs (fun v182 => rd sL (v1 + (3 : Int32)) xs (fun v183 => rd sL (v1 + (4 : Int32)) xs (fun v184 => rd sL (v1 + (5 : Int32)) xs (fun v185 => cI (f_Mo_find v181 v182 v183 v184 v185 m180) (fun v186 m187 => if v179 = v186 then (k940_ m187) else some (0 : Int32))))))))))))) else if v4 = (24 : Int32) then cI (f_NC_undo m2) (fun v188 m189 => cI (f_Mo_undo m189) (fun v190 m191 => if v188 = v190 then (k940_ m191) else some (0 : Int32))) else if v4 = (25 : Int32) then rd sL (v1 + (1 : Int32)) xs (fun v192 => cI (f_NC_count v192 m2) (fun v193 m194 => rd sL (v1 + (1 : Int32)) xs (fun v195 => cI (f_Mo_count v195 m194) (fun v196 m197 => if v193 = v196 then (k940_ m197) else some (0 : Int32))))) else (k940_ m2))))
def lawF (sL : Nat) (xs : Nat → Int32) (m : Me) : Option Int32 := ((fx (lb_Law_law_18 sL xs) (fun _ _ => none) FU) (0 : Int32) m)
set_option maxHeartbeats 8000000 in
set_option maxRecDepth 100000 in
theorem law_J {X : Cx} {b sL : Nat} {xs : Nat → Int32} (m : Me) (hX : Gd X code RL 4 60) (hs : Gs X b sL xs) (hG : Gl X b) : J X (oP mZ) (lawF sL xs m) m 16 [(2, rX X 200), (1, rX X 0), (0, .ref b)] [] := by
  unfold lawF
  refine r_iconst (pc := 16) hX dL_law_16 ic_0 ?_
  refine r_istore_n (L' := [(3, .int (0 : Int32)), (2, rX X 200), (1, rX X 0), (0, .ref b)]) (pc := 17) hX dL_law_17 rfl (by decide) rfl ?_
  have hl18 : ∀ n : Nat, ∀ (v1 : Int32) (m2 : Me), J X (oP mZ) (fx (lb_Law_law_18 sL xs) (fun _ _ => none) n v1 m2) m2 18 [(0, .ref b), (1, rX X 0), (2, rX X 200), (3, .int v1)] [] := by
    refine fx_ind (fun (f : Int32 → Me → Option Int32) => ∀ (v1 : Int32) (m2 : Me), J X (oP mZ) (f v1 m2) m2 18 [(0, .ref b), (1, rX X 0), (2, rX X 200), (3, .int v1)] []) (fun _ _ => r_none) ?_
    intro s18 hs18 v1 m2
    unfold lb_Law_law_18
    refine r_iload_n (pc := 18) hX 3 dL_law_18 rfl rfl ?_
    refine r_aload_n (pc := 19) hX 0 dL_law_19 rfl rfl ?_
    refine r_slen (pc := 20) hX hs dL_law_20 ?_
    refine r_bipush (pc := 21) hX dL_law_21 bp_6 ?_
    refine r_isub (pc := 23) hX dL_law_23 ?_
    refine r_icmp_gt (tgt := 946) (pc := 24) hX dL_law_24 (by decide) ?_ ?_
    · skip
      refine r_iconst (pc := 946) hX dL_law_946 ic_1 ?_
      exact r_lw1 (pc := 947) hX hG dL_law_947
    · skip
      refine r_aload_n (pc := 27) hX 0 dL_law_27 rfl rfl ?_
      refine r_iload_n (pc := 28) hX 3 dL_law_28 rfl rfl ?_
      refine r_sld (pc := 29) hX hs dL_law_29 (fun v3 => ?_)
      refine r_bipush (pc := 30) hX dL_law_30 bp_31 ?_
      refine r_iand (pc := 32) hX dL_law_32 ?_
      refine r_nmI (fun v4 => ?_)
      refine r_join (P := fun k => ∀ (m5 : Me), J X (oP mZ) (k m5) m5 940 [(0, .ref b), (1, rX X 0), (2, rX X 200), (3, .int v1)] []) ?_ ?_
      · intro m5
        refine r_iincN (L' := fun w => [(3, .int w), (0, .ref b), (1, rX X 0), (2, rX X 200)]) (pc := 940) hX 3 dL_law_940 rfl rfl (by decide) (fun _ => rfl) (fun v6 => ?_)
        refine r_goto (tgt := 18) (pc := 943) hX dL_law_943 (by decide) ?_
        exact r_sub [1, 2, 3, 0] rfl (hs18 v6 m5)
      intro k940_ hk940_
      refine r_ite (fun hs0 => ?_) (fun hs0 => ?_)
      · refine r_swIn (tgt := 152) (pc := 33) hX dL_law_33 (by rw [hs0]; decide) (by rw [hs0]; decide) (by rw [hs0]; rfl) (by decide) ?_
        refine r_aload_n (pc := 152) hX 1 dL_law_152 rfl rfl ?_
        refine r_aload_n (pc := 153) hX 0 dL_law_153 rfl rfl ?_
        refine r_iload_n (pc := 154) hX 3 dL_law_154 rfl rfl ?_
        refine r_iconst (pc := 155) hX dL_law_155 ic_1 ?_
        refine r_iadd (pc := 156) hX dL_law_156 ?_
        refine r_sld (pc := 157) hX hs dL_law_157 (fun v7 => ?_)
        refine r_aload_n (pc := 158) hX 0 dL_law_158 rfl rfl ?_
        refine r_iload_n (pc := 159) hX 3 dL_law_159 rfl rfl ?_
        refine r_iconst (pc := 160) hX dL_law_160 ic_2 ?_
        refine r_iadd (pc := 161) hX dL_law_161 ?_
        refine r_sld (pc := 162) hX hs dL_law_162 (fun v8 => ?_)
        refine r_aload_n (pc := 163) hX 0 dL_law_163 rfl rfl ?_
        refine r_iload_n (pc := 164) hX 3 dL_law_164 rfl rfl ?_
        refine r_iconst (pc := 165) hX dL_law_165 ic_3 ?_
        refine r_iadd (pc := 166) hX dL_law_166 ?_
        refine r_sld (pc := 167) hX hs dL_law_167 (fun v9 => ?_)
        refine r_cvI (st := []) (pc := 168) hX dL_law_168 MI_NC_name MV_NC_name lkL_13 k0 (c_NC_name v7 v8 v9 m2) rfl rfl (Nat.le_of_ble_eq_true rfl) (by decide) (fun v10 m11 => ?_)
        refine r_aload_n (pc := 171) hX 2 dL_law_171 rfl rfl ?_
        refine r_aload_n (pc := 172) hX 0 dL_law_172 rfl rfl ?_
        refine r_iload_n (pc := 173) hX 3 dL_law_173 rfl rfl ?_
        refine r_iconst (pc := 174) hX dL_law_174 ic_1 ?_
        refine r_iadd (pc := 175) hX dL_law_175 ?_
        refine r_sld (pc := 176) hX hs dL_law_176 (fun v12 => ?_)
        refine r_aload_n (pc := 177) hX 0 dL_law_177 rfl rfl ?_
        refine r_iload_n (pc := 178) hX 3 dL_law_178 rfl rfl ?_
        refine r_iconst (pc := 179) hX dL_law_179 ic_2 ?_
        refine r_iadd (pc := 180) hX dL_law_180 ?_
        refine r_sld (pc := 181) hX hs dL_law_181 (fun v13 => ?_)
        refine r_aload_n (pc := 182) hX 0 dL_law_182 rfl rfl ?_
        refine r_iload_n (pc := 183) hX 3 dL_law_183 rfl rfl ?_
        refine r_iconst (pc := 184) hX dL_law_184 ic_3 ?_
        refine r_iadd (pc := 185) hX dL_law_185 ?_
        refine r_sld (pc := 186) hX hs dL_law_186 (fun v14 => ?_)
        refine r_cvI (st := [.int v10]) (pc := 187) hX dL_law_187 MI_Mo_name MV_Mo_name lkL_17 k200 (c_Mo_name v12 v13 v14 m11) rfl rfl (Nat.le_of_ble_eq_true rfl) (by decide) (fun v15 m16 => ?_)
        refine r_icmp_eq (tgt := 940) (pc := 190) hX dL_law_190 (by decide) ?_ ?_
        · skip
          exact hk940_ m16
        · skip
          refine r_iconst (pc := 193) hX dL_law_193 ic_0 ?_
          exact r_lw0 (pc := 194) hX hG dL_law_194
      refine r_ite (fun hs1 => ?_) (fun hs1 => ?_)
      · refine r_swIn (tgt := 195) (pc := 33) hX dL_law_33 (by rw [hs1]; decide) (by rw [hs1]; decide) (by rw [hs1]; rfl) (by decide) ?_
        refine r_aload_n (pc := 195) hX 1 dL_law_195 rfl rfl ?_
        refine r_aload_n (pc := 196) hX 0 dL_law_196 rfl rfl ?_
        refine r_iload_n (pc := 197) hX 3 dL_law_197 rfl rfl ?_
        refine r_iconst (pc := 198) hX dL_law_198 ic_1 ?_
        refine r_iadd (pc := 199) hX dL_law_199 ?_
        refine r_sld (pc := 200) hX hs dL_law_200 (fun v17 => ?_)
        refine r_aload_n (pc := 201) hX 0 dL_law_201 rfl rfl ?_
        refine r_iload_n (pc := 202) hX 3 dL_law_202 rfl rfl ?_
        refine r_iconst (pc := 203) hX dL_law_203 ic_2 ?_
        refine r_iadd (pc := 204) hX dL_law_204 ?_
        refine r_sld (pc := 205) hX hs dL_law_205 (fun v18 => ?_)
        refine r_cvI (st := []) (pc := 206) hX dL_law_206 MI_NC_dot MV_NC_dot lkL_18 k0 (c_NC_dot v17 v18 m2) rfl rfl (Nat.le_of_ble_eq_true rfl) (by decide) (fun v19 m20 => ?_)
        refine r_aload_n (pc := 209) hX 2 dL_law_209 rfl rfl ?_
        refine r_aload_n (pc := 210) hX 0 dL_law_210 rfl rfl ?_
        refine r_iload_n (pc := 211) hX 3 dL_law_211 rfl rfl ?_
        refine r_iconst (pc := 212) hX dL_law_212 ic_1 ?_
        refine r_iadd (pc := 213) hX dL_law_213 ?_
        refine r_sld (pc := 214) hX hs dL_law_214 (fun v21 => ?_)
        refine r_aload_n (pc := 215) hX 0 dL_law_215 rfl rfl ?_
        refine r_iload_n (pc := 216) hX 3 dL_law_216 rfl rfl ?_
        refine r_iconst (pc := 217) hX dL_law_217 ic_2 ?_
        refine r_iadd (pc := 218) hX dL_law_218 ?_
        refine r_sld (pc := 219) hX hs dL_law_219 (fun v22 => ?_)
        refine r_cvI (st := [.int v19]) (pc := 220) hX dL_law_220 MI_Mo_dot MV_Mo_dot lkL_22 k200 (c_Mo_dot v21 v22 m20) rfl rfl (Nat.le_of_ble_eq_true rfl) (by decide) (fun v23 m24 => ?_)
        refine r_icmp_eq (tgt := 940) (pc := 223) hX dL_law_223 (by decide) ?_ ?_
        · skip
          exact hk940_ m24
        · skip
          refine r_iconst (pc := 226) hX dL_law_226 ic_0 ?_
          exact r_lw0 (pc := 227) hX hG dL_law_227
      refine r_ite (fun hs2 => ?_) (fun hs2 => ?_)
      · refine r_swIn (tgt := 228) (pc := 33) hX dL_law_33 (by rw [hs2]; decide) (by rw [hs2]; decide) (by rw [hs2]; rfl) (by decide) ?_
        refine r_aload_n (pc := 228) hX 1 dL_law_228 rfl rfl ?_
        refine r_aload_n (pc := 229) hX 0 dL_law_229 rfl rfl ?_
        refine r_iload_n (pc := 230) hX 3 dL_law_230 rfl rfl ?_
        refine r_iconst (pc := 231) hX dL_law_231 ic_1 ?_
        refine r_iadd (pc := 232) hX dL_law_232 ?_
        refine r_sld (pc := 233) hX hs dL_law_233 (fun v25 => ?_)
        refine r_aload_n (pc := 234) hX 0 dL_law_234 rfl rfl ?_
        refine r_iload_n (pc := 235) hX 3 dL_law_235 rfl rfl ?_
        refine r_iconst (pc := 236) hX dL_law_236 ic_2 ?_
        refine r_iadd (pc := 237) hX dL_law_237 ?_
        refine r_sld (pc := 238) hX hs dL_law_238 (fun v26 => ?_)
        refine r_aload_n (pc := 239) hX 0 dL_law_239 rfl rfl ?_
        refine r_iload_n (pc := 240) hX 3 dL_law_240 rfl rfl ?_
        refine r_iconst (pc := 241) hX dL_law_241 ic_3 ?_
        refine r_iadd (pc := 242) hX dL_law_242 ?_
        refine r_sld (pc := 243) hX hs dL_law_243 (fun v27 => ?_)
        refine r_cvI (st := []) (pc := 244) hX dL_law_244 MI_NC_move MV_NC_move lkL_23 k0 (c_NC_move v25 v26 v27 m2) rfl rfl (Nat.le_of_ble_eq_true rfl) (by decide) (fun v28 m29 => ?_)
        refine r_aload_n (pc := 247) hX 2 dL_law_247 rfl rfl ?_
        refine r_aload_n (pc := 248) hX 0 dL_law_248 rfl rfl ?_
        refine r_iload_n (pc := 249) hX 3 dL_law_249 rfl rfl ?_
        refine r_iconst (pc := 250) hX dL_law_250 ic_1 ?_
        refine r_iadd (pc := 251) hX dL_law_251 ?_
        refine r_sld (pc := 252) hX hs dL_law_252 (fun v30 => ?_)
        refine r_aload_n (pc := 253) hX 0 dL_law_253 rfl rfl ?_
        refine r_iload_n (pc := 254) hX 3 dL_law_254 rfl rfl ?_
        refine r_iconst (pc := 255) hX dL_law_255 ic_2 ?_
        refine r_iadd (pc := 256) hX dL_law_256 ?_
        refine r_sld (pc := 257) hX hs dL_law_257 (fun v31 => ?_)
        refine r_aload_n (pc := 258) hX 0 dL_law_258 rfl rfl ?_
        refine r_iload_n (pc := 259) hX 3 dL_law_259 rfl rfl ?_
        refine r_iconst (pc := 260) hX dL_law_260 ic_3 ?_
        refine r_iadd (pc := 261) hX dL_law_261 ?_
        refine r_sld (pc := 262) hX hs dL_law_262 (fun v32 => ?_)
        refine r_cvI (st := [.int v28]) (pc := 263) hX dL_law_263 MI_Mo_move MV_Mo_move lkL_26 k200 (c_Mo_move v30 v31 v32 m29) rfl rfl (Nat.le_of_ble_eq_true rfl) (by decide) (fun v33 m34 => ?_)
        refine r_icmp_eq (tgt := 940) (pc := 266) hX dL_law_266 (by decide) ?_ ?_
        · skip
          exact hk940_ m34
        · skip
          refine r_iconst (pc := 269) hX dL_law_269 ic_0 ?_
          exact r_lw0 (pc := 270) hX hG dL_law_270
      refine r_ite (fun hs3 => ?_) (fun hs3 => ?_)
      · refine r_swIn (tgt := 271) (pc := 33) hX dL_law_33 (by rw [hs3]; decide) (by rw [hs3]; decide) (by rw [hs3]; rfl) (by decide) ?_
        refine r_aload_n (pc := 271) hX 1 dL_law_271 rfl rfl ?_
        refine r_aload_n (pc := 272) hX 0 dL_law_272 rfl rfl ?_
        refine r_iload_n (pc := 273) hX 3 dL_law_273 rfl rfl ?_
        refine r_iconst (pc := 274) hX dL_law_274 ic_1 ?_
        refine r_iadd (pc := 275) hX dL_law_275 ?_
        refine r_sld (pc := 276) hX hs dL_law_276 (fun v35 => ?_)
        refine r_aload_n (pc := 277) hX 0 dL_law_277 rfl rfl ?_
        refine r_iload_n (pc := 278) hX 3 dL_law_278 rfl rfl ?_
        refine r_iconst (pc := 279) hX dL_law_279 ic_2 ?_
        refine r_iadd (pc := 280) hX dL_law_280 ?_
        refine r_sld (pc := 281) hX hs dL_law_281 (fun v36 => ?_)
        refine r_cvI (st := []) (pc := 282) hX dL_law_282 MI_NC_weigh MV_NC_weigh lkL_27 k0 (c_NC_weigh v35 v36 m2) rfl rfl (Nat.le_of_ble_eq_true rfl) (by decide) (fun v37 m38 => ?_)
        refine r_aload_n (pc := 285) hX 2 dL_law_285 rfl rfl ?_
        refine r_aload_n (pc := 286) hX 0 dL_law_286 rfl rfl ?_
        refine r_iload_n (pc := 287) hX 3 dL_law_287 rfl rfl ?_
        refine r_iconst (pc := 288) hX dL_law_288 ic_1 ?_
        refine r_iadd (pc := 289) hX dL_law_289 ?_
        refine r_sld (pc := 290) hX hs dL_law_290 (fun v39 => ?_)
        refine r_aload_n (pc := 291) hX 0 dL_law_291 rfl rfl ?_
        refine r_iload_n (pc := 292) hX 3 dL_law_292 rfl rfl ?_
        refine r_iconst (pc := 293) hX dL_law_293 ic_2 ?_
        refine r_iadd (pc := 294) hX dL_law_294 ?_
        refine r_sld (pc := 295) hX hs dL_law_295 (fun v40 => ?_)
        refine r_cvI (st := [.int v37]) (pc := 296) hX dL_law_296 MI_Mo_weigh MV_Mo_weigh lkL_30 k200 (c_Mo_weigh v39 v40 m38) rfl rfl (Nat.le_of_ble_eq_true rfl) (by decide) (fun v41 m42 => ?_)
        refine r_icmp_eq (tgt := 940) (pc := 299) hX dL_law_299 (by decide) ?_ ?_
        · skip
          exact hk940_ m42
        · skip
          refine r_iconst (pc := 302) hX dL_law_302 ic_0 ?_
          exact r_lw0 (pc := 303) hX hG dL_law_303
      refine r_ite (fun hs4 => ?_) (fun hs4 => ?_)
      · refine r_swIn (tgt := 304) (pc := 33) hX dL_law_33 (by rw [hs4]; decide) (by rw [hs4]; decide) (by rw [hs4]; rfl) (by decide) ?_
        refine r_aload_n (pc := 304) hX 1 dL_law_304 rfl rfl ?_
        refine r_aload_n (pc := 305) hX 0 dL_law_305 rfl rfl ?_
        refine r_iload_n (pc := 306) hX 3 dL_law_306 rfl rfl ?_
        refine r_iconst (pc := 307) hX dL_law_307 ic_1 ?_
        refine r_iadd (pc := 308) hX dL_law_308 ?_
        refine r_sld (pc := 309) hX hs dL_law_309 (fun v43 => ?_)
        refine r_aload_n (pc := 310) hX 0 dL_law_310 rfl rfl ?_
        refine r_iload_n (pc := 311) hX 3 dL_law_311 rfl rfl ?_
        refine r_iconst (pc := 312) hX dL_law_312 ic_2 ?_
        refine r_iadd (pc := 313) hX dL_law_313 ?_
        refine r_sld (pc := 314) hX hs dL_law_314 (fun v44 => ?_)
        refine r_aload_n (pc := 315) hX 0 dL_law_315 rfl rfl ?_
        refine r_iload_n (pc := 316) hX 3 dL_law_316 rfl rfl ?_
        refine r_iconst (pc := 317) hX dL_law_317 ic_3 ?_
        refine r_iadd (pc := 318) hX dL_law_318 ?_
        refine r_sld (pc := 319) hX hs dL_law_319 (fun v45 => ?_)
        refine r_cvI (st := []) (pc := 320) hX dL_law_320 MI_NC_size MV_NC_size lkL_31 k0 (c_NC_size v43 v44 v45 m2) rfl rfl (Nat.le_of_ble_eq_true rfl) (by decide) (fun v46 m47 => ?_)
        refine r_aload_n (pc := 323) hX 2 dL_law_323 rfl rfl ?_
        refine r_aload_n (pc := 324) hX 0 dL_law_324 rfl rfl ?_
        refine r_iload_n (pc := 325) hX 3 dL_law_325 rfl rfl ?_
        refine r_iconst (pc := 326) hX dL_law_326 ic_1 ?_
        refine r_iadd (pc := 327) hX dL_law_327 ?_
        refine r_sld (pc := 328) hX hs dL_law_328 (fun v48 => ?_)
        refine r_aload_n (pc := 329) hX 0 dL_law_329 rfl rfl ?_
        refine r_iload_n (pc := 330) hX 3 dL_law_330 rfl rfl ?_
        refine r_iconst (pc := 331) hX dL_law_331 ic_2 ?_
        refine r_iadd (pc := 332) hX dL_law_332 ?_
        refine r_sld (pc := 333) hX hs dL_law_333 (fun v49 => ?_)
        refine r_aload_n (pc := 334) hX 0 dL_law_334 rfl rfl ?_
        refine r_iload_n (pc := 335) hX 3 dL_law_335 rfl rfl ?_
        refine r_iconst (pc := 336) hX dL_law_336 ic_3 ?_
        refine r_iadd (pc := 337) hX dL_law_337 ?_
        refine r_sld (pc := 338) hX hs dL_law_338 (fun v50 => ?_)
        refine r_cvI (st := [.int v46]) (pc := 339) hX dL_law_339 MI_Mo_size MV_Mo_size lkL_34 k200 (c_Mo_size v48 v49 v50 m47) rfl rfl (Nat.le_of_ble_eq_true rfl) (by decide) (fun v51 m52 => ?_)
        refine r_icmp_eq (tgt := 940) (pc := 342) hX dL_law_342 (by decide) ?_ ?_
        · skip
          exact hk940_ m52
        · skip
          refine r_iconst (pc := 345) hX dL_law_345 ic_0 ?_
          exact r_lw0 (pc := 346) hX hG dL_law_346
      refine r_ite (fun hs5 => ?_) (fun hs5 => ?_)
      · refine r_swIn (tgt := 347) (pc := 33) hX dL_law_33 (by rw [hs5]; decide) (by rw [hs5]; decide) (by rw [hs5]; rfl) (by decide) ?_
        refine r_aload_n (pc := 347) hX 1 dL_law_347 rfl rfl ?_
        refine r_aload_n (pc := 348) hX 0 dL_law_348 rfl rfl ?_
        refine r_iload_n (pc := 349) hX 3 dL_law_349 rfl rfl ?_
        refine r_iconst (pc := 350) hX dL_law_350 ic_1 ?_
        refine r_iadd (pc := 351) hX dL_law_351 ?_
        refine r_sld (pc := 352) hX hs dL_law_352 (fun v53 => ?_)
        refine r_aload_n (pc := 353) hX 0 dL_law_353 rfl rfl ?_
        refine r_iload_n (pc := 354) hX 3 dL_law_354 rfl rfl ?_
        refine r_iconst (pc := 355) hX dL_law_355 ic_2 ?_
        refine r_iadd (pc := 356) hX dL_law_356 ?_
        refine r_sld (pc := 357) hX hs dL_law_357 (fun v54 => ?_)
        refine r_cvI (st := []) (pc := 358) hX dL_law_358 MI_NC_about MV_NC_about lkL_35 k0 (c_NC_about v53 v54 m2) rfl rfl (Nat.le_of_ble_eq_true rfl) (by decide) (fun v55 m56 => ?_)
        refine r_aload_n (pc := 361) hX 2 dL_law_361 rfl rfl ?_
        refine r_aload_n (pc := 362) hX 0 dL_law_362 rfl rfl ?_
        refine r_iload_n (pc := 363) hX 3 dL_law_363 rfl rfl ?_
        refine r_iconst (pc := 364) hX dL_law_364 ic_1 ?_
        refine r_iadd (pc := 365) hX dL_law_365 ?_
        refine r_sld (pc := 366) hX hs dL_law_366 (fun v57 => ?_)
        refine r_aload_n (pc := 367) hX 0 dL_law_367 rfl rfl ?_
        refine r_iload_n (pc := 368) hX 3 dL_law_368 rfl rfl ?_
        refine r_iconst (pc := 369) hX dL_law_369 ic_2 ?_
        refine r_iadd (pc := 370) hX dL_law_370 ?_
        refine r_sld (pc := 371) hX hs dL_law_371 (fun v58 => ?_)
        refine r_cvI (st := [.int v55]) (pc := 372) hX dL_law_372 MI_Mo_about MV_Mo_about lkL_38 k200 (c_Mo_about v57 v58 m56) rfl rfl (Nat.le_of_ble_eq_true rfl) (by decide) (fun v59 m60 => ?_)
        refine r_icmp_eq (tgt := 940) (pc := 375) hX dL_law_375 (by decide) ?_ ?_
        · skip
          exact hk940_ m60
        · skip
          refine r_iconst (pc := 378) hX dL_law_378 ic_0 ?_
          exact r_lw0 (pc := 379) hX hG dL_law_379
      refine r_ite (fun hs6 => ?_) (fun hs6 => ?_)
      · refine r_swIn (tgt := 380) (pc := 33) hX dL_law_33 (by rw [hs6]; decide) (by rw [hs6]; decide) (by rw [hs6]; rfl) (by decide) ?_
        refine r_aload_n (pc := 380) hX 1 dL_law_380 rfl rfl ?_
        refine r_aload_n (pc := 381) hX 0 dL_law_381 rfl rfl ?_
        refine r_iload_n (pc := 382) hX 3 dL_law_382 rfl rfl ?_
        refine r_iconst (pc := 383) hX dL_law_383 ic_1 ?_
        refine r_iadd (pc := 384) hX dL_law_384 ?_
        refine r_sld (pc := 385) hX hs dL_law_385 (fun v61 => ?_)
        refine r_aload_n (pc := 386) hX 0 dL_law_386 rfl rfl ?_
        refine r_iload_n (pc := 387) hX 3 dL_law_387 rfl rfl ?_
        refine r_iconst (pc := 388) hX dL_law_388 ic_2 ?_
        refine r_iadd (pc := 389) hX dL_law_389 ?_
        refine r_sld (pc := 390) hX hs dL_law_390 (fun v62 => ?_)
        refine r_cvP (st := []) (pc := 391) hX dL_law_391 MI_NC_isOf MV_NC_isOf lkL_39 k0 (c_NC_isOf v61 v62 m2) rfl rfl (Nat.le_of_ble_eq_true rfl) (by decide) (fun v63 => ?_)
        refine r_aload_n (pc := 394) hX 2 dL_law_394 rfl rfl ?_
        refine r_aload_n (pc := 395) hX 0 dL_law_395 rfl rfl ?_
        refine r_iload_n (pc := 396) hX 3 dL_law_396 rfl rfl ?_
        refine r_iconst (pc := 397) hX dL_law_397 ic_1 ?_
        refine r_iadd (pc := 398) hX dL_law_398 ?_
        refine r_sld (pc := 399) hX hs dL_law_399 (fun v64 => ?_)
        refine r_aload_n (pc := 400) hX 0 dL_law_400 rfl rfl ?_
        refine r_iload_n (pc := 401) hX 3 dL_law_401 rfl rfl ?_
        refine r_iconst (pc := 402) hX dL_law_402 ic_2 ?_
        refine r_iadd (pc := 403) hX dL_law_403 ?_
        refine r_sld (pc := 404) hX hs dL_law_404 (fun v65 => ?_)
        refine r_cvI (st := [.int v63]) (pc := 405) hX dL_law_405 MI_Mo_isOf MV_Mo_isOf lkL_42 k200 (c_Mo_isOf v64 v65 m2) rfl rfl (Nat.le_of_ble_eq_true rfl) (by decide) (fun v66 m67 => ?_)
        refine r_icmp_eq (tgt := 940) (pc := 408) hX dL_law_408 (by decide) ?_ ?_
        · skip
          exact hk940_ m67
        · skip
          refine r_iconst (pc := 411) hX dL_law_411 ic_0 ?_
          exact r_lw0 (pc := 412) hX hG dL_law_412
      refine r_ite (fun hs7 => ?_) (fun hs7 => ?_)
      · refine r_swIn (tgt := 413) (pc := 33) hX dL_law_33 (by rw [hs7]; decide) (by rw [hs7]; decide) (by rw [hs7]; rfl) (by decide) ?_
        refine r_aload_n (pc := 413) hX 1 dL_law_413 rfl rfl ?_
        refine r_aload_n (pc := 414) hX 0 dL_law_414 rfl rfl ?_
        refine r_iload_n (pc := 415) hX 3 dL_law_415 rfl rfl ?_
        refine r_iconst (pc := 416) hX dL_law_416 ic_1 ?_
        refine r_iadd (pc := 417) hX dL_law_417 ?_
        refine r_sld (pc := 418) hX hs dL_law_418 (fun v68 => ?_)
        refine r_aload_n (pc := 419) hX 0 dL_law_419 rfl rfl ?_
        refine r_iload_n (pc := 420) hX 3 dL_law_420 rfl rfl ?_
        refine r_iconst (pc := 421) hX dL_law_421 ic_2 ?_
        refine r_iadd (pc := 422) hX dL_law_422 ?_
        refine r_sld (pc := 423) hX hs dL_law_423 (fun v69 => ?_)
        refine r_aload_n (pc := 424) hX 0 dL_law_424 rfl rfl ?_
        refine r_iload_n (pc := 425) hX 3 dL_law_425 rfl rfl ?_
        refine r_iconst (pc := 426) hX dL_law_426 ic_3 ?_
        refine r_iadd (pc := 427) hX dL_law_427 ?_
        refine r_sld (pc := 428) hX hs dL_law_428 (fun v70 => ?_)
        refine r_aload_n (pc := 429) hX 0 dL_law_429 rfl rfl ?_
        refine r_iload_n (pc := 430) hX 3 dL_law_430 rfl rfl ?_
        refine r_iconst (pc := 431) hX dL_law_431 ic_4 ?_
        refine r_iadd (pc := 432) hX dL_law_432 ?_
        refine r_sld (pc := 433) hX hs dL_law_433 (fun v71 => ?_)
        refine r_cvI (st := []) (pc := 434) hX dL_law_434 MI_NC_way MV_NC_way lkL_43 k0 (c_NC_way v68 v69 v70 v71 m2) rfl rfl (Nat.le_of_ble_eq_true rfl) (by decide) (fun v72 m73 => ?_)
        refine r_aload_n (pc := 437) hX 2 dL_law_437 rfl rfl ?_
        refine r_aload_n (pc := 438) hX 0 dL_law_438 rfl rfl ?_
        refine r_iload_n (pc := 439) hX 3 dL_law_439 rfl rfl ?_
        refine r_iconst (pc := 440) hX dL_law_440 ic_1 ?_
        refine r_iadd (pc := 441) hX dL_law_441 ?_
        refine r_sld (pc := 442) hX hs dL_law_442 (fun v74 => ?_)
        refine r_aload_n (pc := 443) hX 0 dL_law_443 rfl rfl ?_
        refine r_iload_n (pc := 444) hX 3 dL_law_444 rfl rfl ?_
        refine r_iconst (pc := 445) hX dL_law_445 ic_2 ?_
        refine r_iadd (pc := 446) hX dL_law_446 ?_
        refine r_sld (pc := 447) hX hs dL_law_447 (fun v75 => ?_)
        refine r_aload_n (pc := 448) hX 0 dL_law_448 rfl rfl ?_
        refine r_iload_n (pc := 449) hX 3 dL_law_449 rfl rfl ?_
        refine r_iconst (pc := 450) hX dL_law_450 ic_3 ?_
        refine r_iadd (pc := 451) hX dL_law_451 ?_
        refine r_sld (pc := 452) hX hs dL_law_452 (fun v76 => ?_)
        refine r_aload_n (pc := 453) hX 0 dL_law_453 rfl rfl ?_
        refine r_iload_n (pc := 454) hX 3 dL_law_454 rfl rfl ?_
        refine r_iconst (pc := 455) hX dL_law_455 ic_4 ?_
        refine r_iadd (pc := 456) hX dL_law_456 ?_
        refine r_sld (pc := 457) hX hs dL_law_457 (fun v77 => ?_)
        refine r_cvI (st := [.int v72]) (pc := 458) hX dL_law_458 MI_Mo_way MV_Mo_way lkL_47 k200 (c_Mo_way v74 v75 v76 v77 m73) rfl rfl (Nat.le_of_ble_eq_true rfl) (by decide) (fun v78 m79 => ?_)
        refine r_icmp_eq (tgt := 940) (pc := 461) hX dL_law_461 (by decide) ?_ ?_
        · skip
          exact hk940_ m79
        · skip
          refine r_iconst (pc := 464) hX dL_law_464 ic_0 ?_
          exact r_lw0 (pc := 465) hX hG dL_law_465
      refine r_ite (fun hs8 => ?_) (fun hs8 => ?_)
      · refine r_swIn (tgt := 466) (pc := 33) hX dL_law_33 (by rw [hs8]; decide) (by rw [hs8]; decide) (by rw [hs8]; rfl) (by decide) ?_
        refine r_aload_n (pc := 466) hX 1 dL_law_466 rfl rfl ?_
        refine r_aload_n (pc := 467) hX 0 dL_law_467 rfl rfl ?_
        refine r_iload_n (pc := 468) hX 3 dL_law_468 rfl rfl ?_
        refine r_iconst (pc := 469) hX dL_law_469 ic_1 ?_
        refine r_iadd (pc := 470) hX dL_law_470 ?_
        refine r_sld (pc := 471) hX hs dL_law_471 (fun v80 => ?_)
        refine r_aload_n (pc := 472) hX 0 dL_law_472 rfl rfl ?_
        refine r_iload_n (pc := 473) hX 3 dL_law_473 rfl rfl ?_
        refine r_iconst (pc := 474) hX dL_law_474 ic_2 ?_
        refine r_iadd (pc := 475) hX dL_law_475 ?_
        refine r_sld (pc := 476) hX hs dL_law_476 (fun v81 => ?_)
        refine r_aload_n (pc := 477) hX 0 dL_law_477 rfl rfl ?_
        refine r_iload_n (pc := 478) hX 3 dL_law_478 rfl rfl ?_
        refine r_iconst (pc := 479) hX dL_law_479 ic_3 ?_
        refine r_iadd (pc := 480) hX dL_law_480 ?_
        refine r_sld (pc := 481) hX hs dL_law_481 (fun v82 => ?_)
        refine r_aload_n (pc := 482) hX 0 dL_law_482 rfl rfl ?_
        refine r_iload_n (pc := 483) hX 3 dL_law_483 rfl rfl ?_
        refine r_iconst (pc := 484) hX dL_law_484 ic_4 ?_
        refine r_iadd (pc := 485) hX dL_law_485 ?_
        refine r_sld (pc := 486) hX hs dL_law_486 (fun v83 => ?_)
        refine r_aload_n (pc := 487) hX 0 dL_law_487 rfl rfl ?_
        refine r_iload_n (pc := 488) hX 3 dL_law_488 rfl rfl ?_
        refine r_iconst (pc := 489) hX dL_law_489 ic_5 ?_
        refine r_iadd (pc := 490) hX dL_law_490 ?_
        refine r_sld (pc := 491) hX hs dL_law_491 (fun v84 => ?_)
        refine r_cvI (st := []) (pc := 492) hX dL_law_492 MI_NC_clash MV_NC_clash lkL_48 k0 (c_NC_clash v80 v81 v82 v83 v84 m2) rfl rfl (Nat.le_of_ble_eq_true rfl) (by decide) (fun v85 m86 => ?_)
        refine r_aload_n (pc := 495) hX 2 dL_law_495 rfl rfl ?_
        refine r_aload_n (pc := 496) hX 0 dL_law_496 rfl rfl ?_
        refine r_iload_n (pc := 497) hX 3 dL_law_497 rfl rfl ?_
        refine r_iconst (pc := 498) hX dL_law_498 ic_1 ?_
        refine r_iadd (pc := 499) hX dL_law_499 ?_
        refine r_sld (pc := 500) hX hs dL_law_500 (fun v87 => ?_)
        refine r_aload_n (pc := 501) hX 0 dL_law_501 rfl rfl ?_
        refine r_iload_n (pc := 502) hX 3 dL_law_502 rfl rfl ?_
        refine r_iconst (pc := 503) hX dL_law_503 ic_2 ?_
        refine r_iadd (pc := 504) hX dL_law_504 ?_
        refine r_sld (pc := 505) hX hs dL_law_505 (fun v88 => ?_)
        refine r_aload_n (pc := 506) hX 0 dL_law_506 rfl rfl ?_
        refine r_iload_n (pc := 507) hX 3 dL_law_507 rfl rfl ?_
        refine r_iconst (pc := 508) hX dL_law_508 ic_3 ?_
        refine r_iadd (pc := 509) hX dL_law_509 ?_
        refine r_sld (pc := 510) hX hs dL_law_510 (fun v89 => ?_)
        refine r_aload_n (pc := 511) hX 0 dL_law_511 rfl rfl ?_
        refine r_iload_n (pc := 512) hX 3 dL_law_512 rfl rfl ?_
        refine r_iconst (pc := 513) hX dL_law_513 ic_4 ?_
        refine r_iadd (pc := 514) hX dL_law_514 ?_
        refine r_sld (pc := 515) hX hs dL_law_515 (fun v90 => ?_)
        refine r_aload_n (pc := 516) hX 0 dL_law_516 rfl rfl ?_
        refine r_iload_n (pc := 517) hX 3 dL_law_517 rfl rfl ?_
        refine r_iconst (pc := 518) hX dL_law_518 ic_5 ?_
        refine r_iadd (pc := 519) hX dL_law_519 ?_
        refine r_sld (pc := 520) hX hs dL_law_520 (fun v91 => ?_)
        refine r_cvI (st := [.int v85]) (pc := 521) hX dL_law_521 MI_Mo_clash MV_Mo_clash lkL_52 k200 (c_Mo_clash v87 v88 v89 v90 v91 m86) rfl rfl (Nat.le_of_ble_eq_true rfl) (by decide) (fun v92 m93 => ?_)
        refine r_icmp_eq (tgt := 940) (pc := 524) hX dL_law_524 (by decide) ?_ ?_
        · skip
          exact hk940_ m93
        · skip
          refine r_iconst (pc := 527) hX dL_law_527 ic_0 ?_
          exact r_lw0 (pc := 528) hX hG dL_law_528
      refine r_ite (fun hs9 => ?_) (fun hs9 => ?_)
      · refine r_swIn (tgt := 529) (pc := 33) hX dL_law_33 (by rw [hs9]; decide) (by rw [hs9]; decide) (by rw [hs9]; rfl) (by decide) ?_
        refine r_aload_n (pc := 529) hX 1 dL_law_529 rfl rfl ?_
        refine r_aload_n (pc := 530) hX 0 dL_law_530 rfl rfl ?_
        refine r_iload_n (pc := 531) hX 3 dL_law_531 rfl rfl ?_
        refine r_iconst (pc := 532) hX dL_law_532 ic_1 ?_
        refine r_iadd (pc := 533) hX dL_law_533 ?_
        refine r_sld (pc := 534) hX hs dL_law_534 (fun v94 => ?_)
        refine r_aload_n (pc := 535) hX 0 dL_law_535 rfl rfl ?_
        refine r_iload_n (pc := 536) hX 3 dL_law_536 rfl rfl ?_
        refine r_iconst (pc := 537) hX dL_law_537 ic_2 ?_
        refine r_iadd (pc := 538) hX dL_law_538 ?_
        refine r_sld (pc := 539) hX hs dL_law_539 (fun v95 => ?_)
        refine r_cvI (st := []) (pc := 540) hX dL_law_540 MI_NC_clashes MV_NC_clashes lkL_53 k0 (c_NC_clashes v94 v95 m2) rfl rfl (Nat.le_of_ble_eq_true rfl) (by decide) (fun v96 m97 => ?_)
        refine r_aload_n (pc := 543) hX 2 dL_law_543 rfl rfl ?_
        refine r_aload_n (pc := 544) hX 0 dL_law_544 rfl rfl ?_
        refine r_iload_n (pc := 545) hX 3 dL_law_545 rfl rfl ?_
        refine r_iconst (pc := 546) hX dL_law_546 ic_1 ?_
        refine r_iadd (pc := 547) hX dL_law_547 ?_
        refine r_sld (pc := 548) hX hs dL_law_548 (fun v98 => ?_)
        refine r_aload_n (pc := 549) hX 0 dL_law_549 rfl rfl ?_
        refine r_iload_n (pc := 550) hX 3 dL_law_550 rfl rfl ?_
        refine r_iconst (pc := 551) hX dL_law_551 ic_2 ?_
        refine r_iadd (pc := 552) hX dL_law_552 ?_
        refine r_sld (pc := 553) hX hs dL_law_553 (fun v99 => ?_)
        refine r_cvI (st := [.int v96]) (pc := 554) hX dL_law_554 MI_Mo_clashes MV_Mo_clashes lkL_56 k200 (c_Mo_clashes v98 v99 m97) rfl rfl (Nat.le_of_ble_eq_true rfl) (by decide) (fun v100 m101 => ?_)
        refine r_icmp_eq (tgt := 940) (pc := 557) hX dL_law_557 (by decide) ?_ ?_
        · skip
          exact hk940_ m101
        · skip
          refine r_iconst (pc := 560) hX dL_law_560 ic_0 ?_
          exact r_lw0 (pc := 561) hX hG dL_law_561
      refine r_ite (fun hs10 => ?_) (fun hs10 => ?_)
      · refine r_swIn (tgt := 562) (pc := 33) hX dL_law_33 (by rw [hs10]; decide) (by rw [hs10]; decide) (by rw [hs10]; rfl) (by decide) ?_
        refine r_aload_n (pc := 562) hX 1 dL_law_562 rfl rfl ?_
        refine r_cvI (st := []) (pc := 563) hX dL_law_563 MI_NC_parts MV_NC_parts lkL_57 k0 (c_NC_parts m2) rfl rfl (Nat.le_of_ble_eq_true rfl) (by decide) (fun v102 m103 => ?_)
        refine r_aload_n (pc := 566) hX 2 dL_law_566 rfl rfl ?_
        refine r_cvI (st := [.int v102]) (pc := 567) hX dL_law_567 MI_Mo_parts MV_Mo_parts lkL_61 k200 (c_Mo_parts m103) rfl rfl (Nat.le_of_ble_eq_true rfl) (by decide) (fun v104 m105 => ?_)
        refine r_icmp_eq (tgt := 940) (pc := 570) hX dL_law_570 (by decide) ?_ ?_
        · skip
          exact hk940_ m105
        · skip
          refine r_iconst (pc := 573) hX dL_law_573 ic_0 ?_
          exact r_lw0 (pc := 574) hX hG dL_law_574
      refine r_ite (fun hs11 => ?_) (fun hs11 => ?_)
      · refine r_swIn (tgt := 575) (pc := 33) hX dL_law_33 (by rw [hs11]; decide) (by rw [hs11]; decide) (by rw [hs11]; rfl) (by decide) ?_
        refine r_aload_n (pc := 575) hX 1 dL_law_575 rfl rfl ?_
        refine r_aload_n (pc := 576) hX 0 dL_law_576 rfl rfl ?_
        refine r_iload_n (pc := 577) hX 3 dL_law_577 rfl rfl ?_
        refine r_iconst (pc := 578) hX dL_law_578 ic_1 ?_
        refine r_iadd (pc := 579) hX dL_law_579 ?_
        refine r_sld (pc := 580) hX hs dL_law_580 (fun v106 => ?_)
        refine r_aload_n (pc := 581) hX 0 dL_law_581 rfl rfl ?_
        refine r_iload_n (pc := 582) hX 3 dL_law_582 rfl rfl ?_
        refine r_iconst (pc := 583) hX dL_law_583 ic_2 ?_
        refine r_iadd (pc := 584) hX dL_law_584 ?_
        refine r_sld (pc := 585) hX hs dL_law_585 (fun v107 => ?_)
        refine r_cvI (st := []) (pc := 586) hX dL_law_586 MI_NC_set MV_NC_set lkL_62 k0 (c_NC_set v106 v107 m2) rfl rfl (Nat.le_of_ble_eq_true rfl) (by decide) (fun v108 m109 => ?_)
        refine r_aload_n (pc := 589) hX 2 dL_law_589 rfl rfl ?_
        refine r_aload_n (pc := 590) hX 0 dL_law_590 rfl rfl ?_
        refine r_iload_n (pc := 591) hX 3 dL_law_591 rfl rfl ?_
        refine r_iconst (pc := 592) hX dL_law_592 ic_1 ?_
        refine r_iadd (pc := 593) hX dL_law_593 ?_
        refine r_sld (pc := 594) hX hs dL_law_594 (fun v110 => ?_)
        refine r_aload_n (pc := 595) hX 0 dL_law_595 rfl rfl ?_
        refine r_iload_n (pc := 596) hX 3 dL_law_596 rfl rfl ?_
        refine r_iconst (pc := 597) hX dL_law_597 ic_2 ?_
        refine r_iadd (pc := 598) hX dL_law_598 ?_
        refine r_sld (pc := 599) hX hs dL_law_599 (fun v111 => ?_)
        refine r_cvI (st := [.int v108]) (pc := 600) hX dL_law_600 MI_Mo_set MV_Mo_set lkL_65 k200 (c_Mo_set v110 v111 m109) rfl rfl (Nat.le_of_ble_eq_true rfl) (by decide) (fun v112 m113 => ?_)
        refine r_icmp_eq (tgt := 940) (pc := 603) hX dL_law_603 (by decide) ?_ ?_
        · skip
          exact hk940_ m113
        · skip
          refine r_iconst (pc := 606) hX dL_law_606 ic_0 ?_
          exact r_lw0 (pc := 607) hX hG dL_law_607
      refine r_ite (fun hs12 => ?_) (fun hs12 => ?_)
      · refine r_swIn (tgt := 608) (pc := 33) hX dL_law_33 (by rw [hs12]; decide) (by rw [hs12]; decide) (by rw [hs12]; rfl) (by decide) ?_
        refine r_aload_n (pc := 608) hX 1 dL_law_608 rfl rfl ?_
        refine r_aload_n (pc := 609) hX 0 dL_law_609 rfl rfl ?_
        refine r_iload_n (pc := 610) hX 3 dL_law_610 rfl rfl ?_
        refine r_iconst (pc := 611) hX dL_law_611 ic_1 ?_
        refine r_iadd (pc := 612) hX dL_law_612 ?_
        refine r_sld (pc := 613) hX hs dL_law_613 (fun v114 => ?_)
        refine r_cvI (st := []) (pc := 614) hX dL_law_614 MI_NC_free MV_NC_free lkL_66 k0 (c_NC_free v114 m2) rfl rfl (Nat.le_of_ble_eq_true rfl) (by decide) (fun v115 m116 => ?_)
        refine r_aload_n (pc := 617) hX 2 dL_law_617 rfl rfl ?_
        refine r_aload_n (pc := 618) hX 0 dL_law_618 rfl rfl ?_
        refine r_iload_n (pc := 619) hX 3 dL_law_619 rfl rfl ?_
        refine r_iconst (pc := 620) hX dL_law_620 ic_1 ?_
        refine r_iadd (pc := 621) hX dL_law_621 ?_
        refine r_sld (pc := 622) hX hs dL_law_622 (fun v117 => ?_)
        refine r_cvI (st := [.int v115]) (pc := 623) hX dL_law_623 MI_Mo_free MV_Mo_free lkL_70 k200 (c_Mo_free v117 m116) rfl rfl (Nat.le_of_ble_eq_true rfl) (by decide) (fun v118 m119 => ?_)
        refine r_icmp_eq (tgt := 940) (pc := 626) hX dL_law_626 (by decide) ?_ ?_
        · skip
          exact hk940_ m119
        · skip
          refine r_iconst (pc := 629) hX dL_law_629 ic_0 ?_
          exact r_lw0 (pc := 630) hX hG dL_law_630
      refine r_ite (fun hs13 => ?_) (fun hs13 => ?_)
      · refine r_swIn (tgt := 631) (pc := 33) hX dL_law_33 (by rw [hs13]; decide) (by rw [hs13]; decide) (by rw [hs13]; rfl) (by decide) ?_
        refine r_aload_n (pc := 631) hX 1 dL_law_631 rfl rfl ?_
        refine r_aload_n (pc := 632) hX 0 dL_law_632 rfl rfl ?_
        refine r_iload_n (pc := 633) hX 3 dL_law_633 rfl rfl ?_
        refine r_iconst (pc := 634) hX dL_law_634 ic_1 ?_
        refine r_iadd (pc := 635) hX dL_law_635 ?_
        refine r_sld (pc := 636) hX hs dL_law_636 (fun v120 => ?_)
        refine r_cvP (st := []) (pc := 637) hX dL_law_637 MI_NC_chosen MV_NC_chosen lkL_71 k0 (c_NC_chosen v120 m2) rfl rfl (Nat.le_of_ble_eq_true rfl) (by decide) (fun v121 => ?_)
        refine r_aload_n (pc := 640) hX 2 dL_law_640 rfl rfl ?_
        refine r_aload_n (pc := 641) hX 0 dL_law_641 rfl rfl ?_
        refine r_iload_n (pc := 642) hX 3 dL_law_642 rfl rfl ?_
        refine r_iconst (pc := 643) hX dL_law_643 ic_1 ?_
        refine r_iadd (pc := 644) hX dL_law_644 ?_
        refine r_sld (pc := 645) hX hs dL_law_645 (fun v122 => ?_)
        refine r_cvI (st := [.int v121]) (pc := 646) hX dL_law_646 MI_Mo_chosen MV_Mo_chosen lkL_74 k200 (c_Mo_chosen v122 m2) rfl rfl (Nat.le_of_ble_eq_true rfl) (by decide) (fun v123 m124 => ?_)
        refine r_icmp_eq (tgt := 940) (pc := 649) hX dL_law_649 (by decide) ?_ ?_
        · skip
          exact hk940_ m124
        · skip
          refine r_iconst (pc := 652) hX dL_law_652 ic_0 ?_
          exact r_lw0 (pc := 653) hX hG dL_law_653
      refine r_ite (fun hs14 => ?_) (fun hs14 => ?_)
      · refine r_swIn (tgt := 654) (pc := 33) hX dL_law_33 (by rw [hs14]; decide) (by rw [hs14]; decide) (by rw [hs14]; rfl) (by decide) ?_
        refine r_aload_n (pc := 654) hX 1 dL_law_654 rfl rfl ?_
        refine r_cvI (st := []) (pc := 655) hX dL_law_655 MI_NC_check MV_NC_check lkL_75 k0 (c_NC_check m2) rfl rfl (Nat.le_of_ble_eq_true rfl) (by decide) (fun v125 m126 => ?_)
        refine r_aload_n (pc := 658) hX 2 dL_law_658 rfl rfl ?_
        refine r_cvI (st := [.int v125]) (pc := 659) hX dL_law_659 MI_Mo_check MV_Mo_check lkL_78 k200 (c_Mo_check m126) rfl rfl (Nat.le_of_ble_eq_true rfl) (by decide) (fun v127 m128 => ?_)
        refine r_icmp_eq (tgt := 940) (pc := 662) hX dL_law_662 (by decide) ?_ ?_
        · skip
          exact hk940_ m128
        · skip
          refine r_iconst (pc := 665) hX dL_law_665 ic_0 ?_
          exact r_lw0 (pc := 666) hX hG dL_law_666
      refine r_ite (fun hs15 => ?_) (fun hs15 => ?_)
      · refine r_swIn (tgt := 667) (pc := 33) hX dL_law_33 (by rw [hs15]; decide) (by rw [hs15]; decide) (by rw [hs15]; rfl) (by decide) ?_
        refine r_aload_n (pc := 667) hX 1 dL_law_667 rfl rfl ?_
        refine r_cvP (st := []) (pc := 668) hX dL_law_668 MI_NC_worth MV_NC_worth lkL_79 k0 (c_NC_worth m2) rfl rfl (Nat.le_of_ble_eq_true rfl) (by decide) (fun v129 => ?_)
        refine r_aload_n (pc := 671) hX 2 dL_law_671 rfl rfl ?_
        refine r_cvI (st := [.int v129]) (pc := 672) hX dL_law_672 MI_Mo_worth MV_Mo_worth lkL_82 k200 (c_Mo_worth m2) rfl rfl (Nat.le_of_ble_eq_true rfl) (by decide) (fun v130 m131 => ?_)
        refine r_icmp_eq (tgt := 940) (pc := 675) hX dL_law_675 (by decide) ?_ ?_
        · skip
          exact hk940_ m131
        · skip
          refine r_iconst (pc := 678) hX dL_law_678 ic_0 ?_
          exact r_lw0 (pc := 679) hX hG dL_law_679
      refine r_ite (fun hs16 => ?_) (fun hs16 => ?_)
      · refine r_swIn (tgt := 680) (pc := 33) hX dL_law_33 (by rw [hs16]; decide) (by rw [hs16]; decide) (by rw [hs16]; rfl) (by decide) ?_
        refine r_aload_n (pc := 680) hX 1 dL_law_680 rfl rfl ?_
        refine r_cvI (st := []) (pc := 681) hX dL_law_681 MI_NC_best MV_NC_best lkL_83 k0 (c_NC_best m2) rfl rfl (Nat.le_of_ble_eq_true rfl) (by decide) (fun v132 m133 => ?_)
        refine r_aload_n (pc := 684) hX 2 dL_law_684 rfl rfl ?_
        refine r_cvI (st := [.int v132]) (pc := 685) hX dL_law_685 MI_Mo_best MV_Mo_best lkL_86 k200 (c_Mo_best m133) rfl rfl (Nat.le_of_ble_eq_true rfl) (by decide) (fun v134 m135 => ?_)
        refine r_icmp_eq (tgt := 940) (pc := 688) hX dL_law_688 (by decide) ?_ ?_
        · skip
          exact hk940_ m135
        · skip
          refine r_iconst (pc := 691) hX dL_law_691 ic_0 ?_
          exact r_lw0 (pc := 692) hX hG dL_law_692
      refine r_ite (fun hs17 => ?_) (fun hs17 => ?_)
      · refine r_swIn (tgt := 693) (pc := 33) hX dL_law_33 (by rw [hs17]; decide) (by rw [hs17]; decide) (by rw [hs17]; rfl) (by decide) ?_
        refine r_aload_n (pc := 693) hX 1 dL_law_693 rfl rfl ?_
        refine r_cvI (st := []) (pc := 694) hX dL_law_694 MI_NC_quick MV_NC_quick lkL_87 k0 (c_NC_quick m2) rfl rfl (Nat.le_of_ble_eq_true rfl) (by decide) (fun v136 m137 => ?_)
        refine r_aload_n (pc := 697) hX 2 dL_law_697 rfl rfl ?_
        refine r_cvI (st := [.int v136]) (pc := 698) hX dL_law_698 MI_Mo_quick MV_Mo_quick lkL_90 k200 (c_Mo_quick m137) rfl rfl (Nat.le_of_ble_eq_true rfl) (by decide) (fun v138 m139 => ?_)
        refine r_icmp_eq (tgt := 940) (pc := 701) hX dL_law_701 (by decide) ?_ ?_
        · skip
          exact hk940_ m139
        · skip
          refine r_iconst (pc := 704) hX dL_law_704 ic_0 ?_
          exact r_lw0 (pc := 705) hX hG dL_law_705
      refine r_ite (fun hs18 => ?_) (fun hs18 => ?_)
      · refine r_swIn (tgt := 706) (pc := 33) hX dL_law_33 (by rw [hs18]; decide) (by rw [hs18]; decide) (by rw [hs18]; rfl) (by decide) ?_
        refine r_aload_n (pc := 706) hX 1 dL_law_706 rfl rfl ?_
        refine r_aload_n (pc := 707) hX 0 dL_law_707 rfl rfl ?_
        refine r_iload_n (pc := 708) hX 3 dL_law_708 rfl rfl ?_
        refine r_iconst (pc := 709) hX dL_law_709 ic_1 ?_
        refine r_iadd (pc := 710) hX dL_law_710 ?_
        refine r_sld (pc := 711) hX hs dL_law_711 (fun v140 => ?_)
        refine r_aload_n (pc := 712) hX 0 dL_law_712 rfl rfl ?_
        refine r_iload_n (pc := 713) hX 3 dL_law_713 rfl rfl ?_
        refine r_iconst (pc := 714) hX dL_law_714 ic_2 ?_
        refine r_iadd (pc := 715) hX dL_law_715 ?_
        refine r_sld (pc := 716) hX hs dL_law_716 (fun v141 => ?_)
        refine r_cvI (st := []) (pc := 717) hX dL_law_717 MI_NC_why MV_NC_why lkL_91 k0 (c_NC_why v140 v141 m2) rfl rfl (Nat.le_of_ble_eq_true rfl) (by decide) (fun v142 m143 => ?_)
        refine r_aload_n (pc := 720) hX 2 dL_law_720 rfl rfl ?_
        refine r_aload_n (pc := 721) hX 0 dL_law_721 rfl rfl ?_
        refine r_iload_n (pc := 722) hX 3 dL_law_722 rfl rfl ?_
        refine r_iconst (pc := 723) hX dL_law_723 ic_1 ?_
        refine r_iadd (pc := 724) hX dL_law_724 ?_
        refine r_sld (pc := 725) hX hs dL_law_725 (fun v144 => ?_)
        refine r_aload_n (pc := 726) hX 0 dL_law_726 rfl rfl ?_
        refine r_iload_n (pc := 727) hX 3 dL_law_727 rfl rfl ?_
        refine r_iconst (pc := 728) hX dL_law_728 ic_2 ?_
        refine r_iadd (pc := 729) hX dL_law_729 ?_
        refine r_sld (pc := 730) hX hs dL_law_730 (fun v145 => ?_)
        refine r_cvI (st := [.int v142]) (pc := 731) hX dL_law_731 MI_Mo_why MV_Mo_why lkL_94 k200 (c_Mo_why v144 v145 m143) rfl rfl (Nat.le_of_ble_eq_true rfl) (by decide) (fun v146 m147 => ?_)
        refine r_icmp_eq (tgt := 940) (pc := 734) hX dL_law_734 (by decide) ?_ ?_
        · skip
          exact hk940_ m147
        · skip
          refine r_iconst (pc := 737) hX dL_law_737 ic_0 ?_
          exact r_lw0 (pc := 738) hX hG dL_law_738
      refine r_ite (fun hs19 => ?_) (fun hs19 => ?_)
      · refine r_swIn (tgt := 739) (pc := 33) hX dL_law_33 (by rw [hs19]; decide) (by rw [hs19]; decide) (by rw [hs19]; rfl) (by decide) ?_
        refine r_aload_n (pc := 739) hX 1 dL_law_739 rfl rfl ?_
        refine r_cvI (st := []) (pc := 740) hX dL_law_740 MI_NC_slack MV_NC_slack lkL_95 k0 (c_NC_slack m2) rfl rfl (Nat.le_of_ble_eq_true rfl) (by decide) (fun v148 m149 => ?_)
        refine r_aload_n (pc := 743) hX 2 dL_law_743 rfl rfl ?_
        refine r_cvI (st := [.int v148]) (pc := 744) hX dL_law_744 MI_Mo_slack MV_Mo_slack lkL_98 k200 (c_Mo_slack m149) rfl rfl (Nat.le_of_ble_eq_true rfl) (by decide) (fun v150 m151 => ?_)
        refine r_icmp_eq (tgt := 940) (pc := 747) hX dL_law_747 (by decide) ?_ ?_
        · skip
          exact hk940_ m151
        · skip
          refine r_iconst (pc := 750) hX dL_law_750 ic_0 ?_
          exact r_lw0 (pc := 751) hX hG dL_law_751
      refine r_ite (fun hs20 => ?_) (fun hs20 => ?_)
      · refine r_swIn (tgt := 752) (pc := 33) hX dL_law_33 (by rw [hs20]; decide) (by rw [hs20]; decide) (by rw [hs20]; rfl) (by decide) ?_
        refine r_aload_n (pc := 752) hX 1 dL_law_752 rfl rfl ?_
        refine r_aload_n (pc := 753) hX 0 dL_law_753 rfl rfl ?_
        refine r_iload_n (pc := 754) hX 3 dL_law_754 rfl rfl ?_
        refine r_iconst (pc := 755) hX dL_law_755 ic_1 ?_
        refine r_iadd (pc := 756) hX dL_law_756 ?_
        refine r_sld (pc := 757) hX hs dL_law_757 (fun v152 => ?_)
        refine r_aload_n (pc := 758) hX 0 dL_law_758 rfl rfl ?_
        refine r_iload_n (pc := 759) hX 3 dL_law_759 rfl rfl ?_
        refine r_iconst (pc := 760) hX dL_law_760 ic_2 ?_
        refine r_iadd (pc := 761) hX dL_law_761 ?_
        refine r_sld (pc := 762) hX hs dL_law_762 (fun v153 => ?_)
        refine r_cvI (st := []) (pc := 763) hX dL_law_763 MI_NC_steady MV_NC_steady lkL_99 k0 (c_NC_steady v152 v153 m2) rfl rfl (Nat.le_of_ble_eq_true rfl) (by decide) (fun v154 m155 => ?_)
        refine r_aload_n (pc := 766) hX 2 dL_law_766 rfl rfl ?_
        refine r_aload_n (pc := 767) hX 0 dL_law_767 rfl rfl ?_
        refine r_iload_n (pc := 768) hX 3 dL_law_768 rfl rfl ?_
        refine r_iconst (pc := 769) hX dL_law_769 ic_1 ?_
        refine r_iadd (pc := 770) hX dL_law_770 ?_
        refine r_sld (pc := 771) hX hs dL_law_771 (fun v156 => ?_)
        refine r_aload_n (pc := 772) hX 0 dL_law_772 rfl rfl ?_
        refine r_iload_n (pc := 773) hX 3 dL_law_773 rfl rfl ?_
        refine r_iconst (pc := 774) hX dL_law_774 ic_2 ?_
        refine r_iadd (pc := 775) hX dL_law_775 ?_
        refine r_sld (pc := 776) hX hs dL_law_776 (fun v157 => ?_)
        refine r_cvI (st := [.int v154]) (pc := 777) hX dL_law_777 MI_Mo_steady MV_Mo_steady lkL_102 k200 (c_Mo_steady v156 v157 m155) rfl rfl (Nat.le_of_ble_eq_true rfl) (by decide) (fun v158 m159 => ?_)
        refine r_icmp_eq (tgt := 940) (pc := 780) hX dL_law_780 (by decide) ?_ ?_
        · skip
          exact hk940_ m159
        · skip
          refine r_iconst (pc := 783) hX dL_law_783 ic_0 ?_
          exact r_lw0 (pc := 784) hX hG dL_law_784
      refine r_ite (fun hs21 => ?_) (fun hs21 => ?_)
      · refine r_swIn (tgt := 785) (pc := 33) hX dL_law_33 (by rw [hs21]; decide) (by rw [hs21]; decide) (by rw [hs21]; rfl) (by decide) ?_
        refine r_aload_n (pc := 785) hX 1 dL_law_785 rfl rfl ?_
        refine r_aload_n (pc := 786) hX 0 dL_law_786 rfl rfl ?_
        refine r_iload_n (pc := 787) hX 3 dL_law_787 rfl rfl ?_
        refine r_iconst (pc := 788) hX dL_law_788 ic_1 ?_
        refine r_iadd (pc := 789) hX dL_law_789 ?_
        refine r_sld (pc := 790) hX hs dL_law_790 (fun v160 => ?_)
        refine r_cvI (st := []) (pc := 791) hX dL_law_791 MI_NC_there MV_NC_there lkL_103 k0 (c_NC_there v160 m2) rfl rfl (Nat.le_of_ble_eq_true rfl) (by decide) (fun v161 m162 => ?_)
        refine r_aload_n (pc := 794) hX 2 dL_law_794 rfl rfl ?_
        refine r_aload_n (pc := 795) hX 0 dL_law_795 rfl rfl ?_
        refine r_iload_n (pc := 796) hX 3 dL_law_796 rfl rfl ?_
        refine r_iconst (pc := 797) hX dL_law_797 ic_1 ?_
        refine r_iadd (pc := 798) hX dL_law_798 ?_
        refine r_sld (pc := 799) hX hs dL_law_799 (fun v163 => ?_)
        refine r_cvI (st := [.int v161]) (pc := 800) hX dL_law_800 MI_Mo_there MV_Mo_there lkL_106 k200 (c_Mo_there v163 m162) rfl rfl (Nat.le_of_ble_eq_true rfl) (by decide) (fun v164 m165 => ?_)
        refine r_icmp_eq (tgt := 940) (pc := 803) hX dL_law_803 (by decide) ?_ ?_
        · skip
          exact hk940_ m165
        · skip
          refine r_iconst (pc := 806) hX dL_law_806 ic_0 ?_
          exact r_lw0 (pc := 807) hX hG dL_law_807
      refine r_ite (fun hs22 => ?_) (fun hs22 => ?_)
      · refine r_swIn (tgt := 808) (pc := 33) hX dL_law_33 (by rw [hs22]; decide) (by rw [hs22]; decide) (by rw [hs22]; rfl) (by decide) ?_
        refine r_aload_n (pc := 808) hX 1 dL_law_808 rfl rfl ?_
        refine r_aload_n (pc := 809) hX 0 dL_law_809 rfl rfl ?_
        refine r_iload_n (pc := 810) hX 3 dL_law_810 rfl rfl ?_
        refine r_iconst (pc := 811) hX dL_law_811 ic_1 ?_
        refine r_iadd (pc := 812) hX dL_law_812 ?_
        refine r_sld (pc := 813) hX hs dL_law_813 (fun v166 => ?_)
        refine r_aload_n (pc := 814) hX 0 dL_law_814 rfl rfl ?_
        refine r_iload_n (pc := 815) hX 3 dL_law_815 rfl rfl ?_
        refine r_iconst (pc := 816) hX dL_law_816 ic_2 ?_
        refine r_iadd (pc := 817) hX dL_law_817 ?_
        refine r_sld (pc := 818) hX hs dL_law_818 (fun v167 => ?_)
        refine r_cvI (st := []) (pc := 819) hX dL_law_819 MI_NC_at MV_NC_at lkL_107 k0 (c_NC_at v166 v167 m2) rfl rfl (Nat.le_of_ble_eq_true rfl) (by decide) (fun v168 m169 => ?_)
        refine r_aload_n (pc := 822) hX 2 dL_law_822 rfl rfl ?_
        refine r_aload_n (pc := 823) hX 0 dL_law_823 rfl rfl ?_
        refine r_iload_n (pc := 824) hX 3 dL_law_824 rfl rfl ?_
        refine r_iconst (pc := 825) hX dL_law_825 ic_1 ?_
        refine r_iadd (pc := 826) hX dL_law_826 ?_
        refine r_sld (pc := 827) hX hs dL_law_827 (fun v170 => ?_)
        refine r_aload_n (pc := 828) hX 0 dL_law_828 rfl rfl ?_
        refine r_iload_n (pc := 829) hX 3 dL_law_829 rfl rfl ?_
        refine r_iconst (pc := 830) hX dL_law_830 ic_2 ?_
        refine r_iadd (pc := 831) hX dL_law_831 ?_
        refine r_sld (pc := 832) hX hs dL_law_832 (fun v171 => ?_)
        refine r_cvI (st := [.int v168]) (pc := 833) hX dL_law_833 MI_Mo_at MV_Mo_at lkL_110 k200 (c_Mo_at v170 v171 m169) rfl rfl (Nat.le_of_ble_eq_true rfl) (by decide) (fun v172 m173 => ?_)
        refine r_icmp_eq (tgt := 940) (pc := 836) hX dL_law_836 (by decide) ?_ ?_
        · skip
          exact hk940_ m173
        · skip
          refine r_iconst (pc := 839) hX dL_law_839 ic_0 ?_
          exact r_lw0 (pc := 840) hX hG dL_law_840
      refine r_ite (fun hs23 => ?_) (fun hs23 => ?_)
      · refine r_swIn (tgt := 841) (pc := 33) hX dL_law_33 (by rw [hs23]; decide) (by rw [hs23]; decide) (by rw [hs23]; rfl) (by decide) ?_
        refine r_aload_n (pc := 841) hX 1 dL_law_841 rfl rfl ?_
        refine r_aload_n (pc := 842) hX 0 dL_law_842 rfl rfl ?_
        refine r_iload_n (pc := 843) hX 3 dL_law_843 rfl rfl ?_
        refine r_iconst (pc := 844) hX dL_law_844 ic_1 ?_
        refine r_iadd (pc := 845) hX dL_law_845 ?_
        refine r_sld (pc := 846) hX hs dL_law_846 (fun v174 => ?_)
        refine r_aload_n (pc := 847) hX 0 dL_law_847 rfl rfl ?_
        refine r_iload_n (pc := 848) hX 3 dL_law_848 rfl rfl ?_
        refine r_iconst (pc := 849) hX dL_law_849 ic_2 ?_
        refine r_iadd (pc := 850) hX dL_law_850 ?_
        refine r_sld (pc := 851) hX hs dL_law_851 (fun v175 => ?_)
        refine r_aload_n (pc := 852) hX 0 dL_law_852 rfl rfl ?_
        refine r_iload_n (pc := 853) hX 3 dL_law_853 rfl rfl ?_
        refine r_iconst (pc := 854) hX dL_law_854 ic_3 ?_
        refine r_iadd (pc := 855) hX dL_law_855 ?_
        refine r_sld (pc := 856) hX hs dL_law_856 (fun v176 => ?_)
        refine r_aload_n (pc := 857) hX 0 dL_law_857 rfl rfl ?_
        refine r_iload_n (pc := 858) hX 3 dL_law_858 rfl rfl ?_
        refine r_iconst (pc := 859) hX dL_law_859 ic_4 ?_
        refine r_iadd (pc := 860) hX dL_law_860 ?_
        refine r_sld (pc := 861) hX hs dL_law_861 (fun v177 => ?_)
        refine r_aload_n (pc := 862) hX 0 dL_law_862 rfl rfl ?_
        refine r_iload_n (pc := 863) hX 3 dL_law_863 rfl rfl ?_
        refine r_iconst (pc := 864) hX dL_law_864 ic_5 ?_
        refine r_iadd (pc := 865) hX dL_law_865 ?_
        refine r_sld (pc := 866) hX hs dL_law_866 (fun v178 => ?_)
        refine r_cvI (st := []) (pc := 867) hX dL_law_867 MI_NC_find MV_NC_find lkL_111 k0 (c_NC_find v174 v175 v176 v177 v178 m2) rfl rfl (Nat.le_of_ble_eq_true rfl) (by decide) (fun v179 m180 => ?_)
        refine r_aload_n (pc := 870) hX 2 dL_law_870 rfl rfl ?_
        refine r_aload_n (pc := 871) hX 0 dL_law_871 rfl rfl ?_
        refine r_iload_n (pc := 872) hX 3 dL_law_872 rfl rfl ?_
        refine r_iconst (pc := 873) hX dL_law_873 ic_1 ?_
        refine r_iadd (pc := 874) hX dL_law_874 ?_
        refine r_sld (pc := 875) hX hs dL_law_875 (fun v181 => ?_)
        refine r_aload_n (pc := 876) hX 0 dL_law_876 rfl rfl ?_
        refine r_iload_n (pc := 877) hX 3 dL_law_877 rfl rfl ?_
        refine r_iconst (pc := 878) hX dL_law_878 ic_2 ?_
        refine r_iadd (pc := 879) hX dL_law_879 ?_
        refine r_sld (pc := 880) hX hs dL_law_880 (fun v182 => ?_)
        refine r_aload_n (pc := 881) hX 0 dL_law_881 rfl rfl ?_
        refine r_iload_n (pc := 882) hX 3 dL_law_882 rfl rfl ?_
        refine r_iconst (pc := 883) hX dL_law_883 ic_3 ?_
        refine r_iadd (pc := 884) hX dL_law_884 ?_
        refine r_sld (pc := 885) hX hs dL_law_885 (fun v183 => ?_)
        refine r_aload_n (pc := 886) hX 0 dL_law_886 rfl rfl ?_
        refine r_iload_n (pc := 887) hX 3 dL_law_887 rfl rfl ?_
        refine r_iconst (pc := 888) hX dL_law_888 ic_4 ?_
        refine r_iadd (pc := 889) hX dL_law_889 ?_
        refine r_sld (pc := 890) hX hs dL_law_890 (fun v184 => ?_)
        refine r_aload_n (pc := 891) hX 0 dL_law_891 rfl rfl ?_
        refine r_iload_n (pc := 892) hX 3 dL_law_892 rfl rfl ?_
        refine r_iconst (pc := 893) hX dL_law_893 ic_5 ?_
        refine r_iadd (pc := 894) hX dL_law_894 ?_
        refine r_sld (pc := 895) hX hs dL_law_895 (fun v185 => ?_)
        refine r_cvI (st := [.int v179]) (pc := 896) hX dL_law_896 MI_Mo_find MV_Mo_find lkL_114 k200 (c_Mo_find v181 v182 v183 v184 v185 m180) rfl rfl (Nat.le_of_ble_eq_true rfl) (by decide) (fun v186 m187 => ?_)
        refine r_icmp_eq (tgt := 940) (pc := 899) hX dL_law_899 (by decide) ?_ ?_
        · skip
          exact hk940_ m187
        · skip
          refine r_iconst (pc := 902) hX dL_law_902 ic_0 ?_
          exact r_lw0 (pc := 903) hX hG dL_law_903
      refine r_ite (fun hs24 => ?_) (fun hs24 => ?_)
      · refine r_swIn (tgt := 904) (pc := 33) hX dL_law_33 (by rw [hs24]; decide) (by rw [hs24]; decide) (by rw [hs24]; rfl) (by decide) ?_
        refine r_aload_n (pc := 904) hX 1 dL_law_904 rfl rfl ?_
        refine r_cvI (st := []) (pc := 905) hX dL_law_905 MI_NC_undo MV_NC_undo lkL_115 k0 (c_NC_undo m2) rfl rfl (Nat.le_of_ble_eq_true rfl) (by decide) (fun v188 m189 => ?_)
        refine r_aload_n (pc := 908) hX 2 dL_law_908 rfl rfl ?_
        refine r_cvI (st := [.int v188]) (pc := 909) hX dL_law_909 MI_Mo_undo MV_Mo_undo lkL_118 k200 (c_Mo_undo m189) rfl rfl (Nat.le_of_ble_eq_true rfl) (by decide) (fun v190 m191 => ?_)
        refine r_icmp_eq (tgt := 940) (pc := 912) hX dL_law_912 (by decide) ?_ ?_
        · skip
          exact hk940_ m191
        · skip
          refine r_iconst (pc := 915) hX dL_law_915 ic_0 ?_
          exact r_lw0 (pc := 916) hX hG dL_law_916
      refine r_ite (fun hs25 => ?_) (fun hs25 => ?_)
      · refine r_swIn (tgt := 917) (pc := 33) hX dL_law_33 (by rw [hs25]; decide) (by rw [hs25]; decide) (by rw [hs25]; rfl) (by decide) ?_
        refine r_aload_n (pc := 917) hX 1 dL_law_917 rfl rfl ?_
        refine r_aload_n (pc := 918) hX 0 dL_law_918 rfl rfl ?_
        refine r_iload_n (pc := 919) hX 3 dL_law_919 rfl rfl ?_
        refine r_iconst (pc := 920) hX dL_law_920 ic_1 ?_
        refine r_iadd (pc := 921) hX dL_law_921 ?_
        refine r_sld (pc := 922) hX hs dL_law_922 (fun v192 => ?_)
        refine r_cvI (st := []) (pc := 923) hX dL_law_923 MI_NC_count MV_NC_count lkL_119 k0 (c_NC_count v192 m2) rfl rfl (Nat.le_of_ble_eq_true rfl) (by decide) (fun v193 m194 => ?_)
        refine r_aload_n (pc := 926) hX 2 dL_law_926 rfl rfl ?_
        refine r_aload_n (pc := 927) hX 0 dL_law_927 rfl rfl ?_
        refine r_iload_n (pc := 928) hX 3 dL_law_928 rfl rfl ?_
        refine r_iconst (pc := 929) hX dL_law_929 ic_1 ?_
        refine r_iadd (pc := 930) hX dL_law_930 ?_
        refine r_sld (pc := 931) hX hs dL_law_931 (fun v195 => ?_)
        refine r_cvI (st := [.int v193]) (pc := 932) hX dL_law_932 MI_Mo_count MV_Mo_count lkL_122 k200 (c_Mo_count v195 m194) rfl rfl (Nat.le_of_ble_eq_true rfl) (by decide) (fun v196 m197 => ?_)
        refine r_icmp_eq (tgt := 940) (pc := 935) hX dL_law_935 (by decide) ?_ ?_
        · skip
          exact hk940_ m197
        · skip
          refine r_iconst (pc := 938) hX dL_law_938 ic_0 ?_
          exact r_lw0 (pc := 939) hX hG dL_law_939
      refine r_swOut (tgt := 940) (pc := 33) hX dL_law_33 (sw_def (n := 25) (by decide) (fun k hk => by rcases (show k = 0 ∨ k = 1 ∨ k = 2 ∨ k = 3 ∨ k = 4 ∨ k = 5 ∨ k = 6 ∨ k = 7 ∨ k = 8 ∨ k = 9 ∨ k = 10 ∨ k = 11 ∨ k = 12 ∨ k = 13 ∨ k = 14 ∨ k = 15 ∨ k = 16 ∨ k = 17 ∨ k = 18 ∨ k = 19 ∨ k = 20 ∨ k = 21 ∨ k = 22 ∨ k = 23 ∨ k = 24 ∨ k = 25 by omega) with rfl | rfl | rfl | rfl | rfl | rfl | rfl | rfl | rfl | rfl | rfl | rfl | rfl | rfl | rfl | rfl | rfl | rfl | rfl | rfl | rfl | rfl | rfl | rfl | rfl | rfl <;> first | exact hs0 | exact hs1 | exact hs2 | exact hs3 | exact hs4 | exact hs5 | exact hs6 | exact hs7 | exact hs8 | exact hs9 | exact hs10 | exact hs11 | exact hs12 | exact hs13 | exact hs14 | exact hs15 | exact hs16 | exact hs17 | exact hs18 | exact hs19 | exact hs20 | exact hs21 | exact hs22 | exact hs23 | exact hs24 | exact hs25)) (by decide) ?_
      exact hk940_ m2
  exact r_sub [3, 2, 1, 0] rfl (hl18 FU (0 : Int32) m)
