/-! PURE PART, BEST: the call -/
theorem pn_lt {tc : Nat → Nat → Bool} {n k : Nat} (hk : k < n) : pnS (rtS tc n) k < nrS (rtS tc n) n := by
  have G := rt_gr tc n
  have := G.1 k
  exact nr_lt (G.2.1 k) (by omega)
set_option maxHeartbeats 2000000 in
theorem c_best {m : Me} (hI' : Inv m) : PairI (f_NC_best m) f_Mo_best := by
  obtain ⟨n, d, a, e, h, H, i⟩ := hI'
  have i1 := i.1
  have h24 := i1.1
  obtain ⟨m1, e1, j1, k1, p1⟩ := splitUp_q i
  obtain ⟨pk1, pk2, G, g0, g1, g2⟩ := p1
  -- the reference: how large, and the parts
  have mfr : ∀ mc m3 : Me, MM mc n d a → Fm SMq mc m3 → MM m3 n d a := fun mc m3 hM f => hM.fr f (by unfold SMq; omega) (by unfold SMq; omega) (fun o j _ _ => by unfold SMq; omega)
  have most : ∀ mc : Me, MM mc n d a → ∃ m3, f_Mo_most (si mc 200 0 0) = some (nI G, m3) ∧ Fm SMq mc m3 := by
    intro mc jc
    have f0 : Fm SMq mc (si mc 200 0 0) := Fm.wr (by unfold SMq; omega)
    obtain ⟨G', m3, e3, g0', g1', f3⟩ := most_ok i1 (mfr mc _ jc f0)
    have : G' = G := g1'.uq g2
    subst this
    exact ⟨m3, e3, f0.tr (f3.mo (fun _ _ q => SFp_q q))⟩
  generalize hR : rtS (tcB n d a) n = R at *
  have cl : ∀ k, k < n → pnS R k < nrS R n := fun k hk => by rw [← hR]; exact pn_lt hk
  have N24 : nrS R n ≤ 24 := by
    have : nrS R n ≤ n := cnt_le _ n
    omega
  by_cases c7 : G ≤ 7
  · -- the class's loop
    obtain ⟨m2, e2, q2, f2⟩ := queue_ok (o := 110) (Or.inr rfl) i1 j1.2.1
    have cn : ∀ p, p < nrS R n → cnt (Pp (pnS R) p) n ≤ 7 := fun p hp => by
      have := g2.1 p hp
      unfold pcS at this
      unfold Pp
      omega
    have A : ((∃ p, p < nrS R n ∧ ∀ σ, ¬ VS n d a (Pp (pnS R) p) σ) ∧ ∃ m3 : Me, f_NC_best m = some (-4, m3) ∧ Fm (fun o _ => o = 110 ∨ Sbc o 0) m1 m3) ∨ ∃ (m3 : Me) (g W : Nat → Nat), (∀ p, p < nrS R n → LB n d a (Pp (pnS R) p) g (W p)) ∧ (∀ k, k < n → m3.1 109 k = hI (g k)) ∧ Fm (fun o _ => o = 110 ∨ Sbc o 0) m1 m3 ∧ f_NC_best m = cP (f_NC_takeInHand m3) (fun m5 => some (nI (sumS W (nrS R n)), m5)) := by
      unfold f_NC_best
      rw [e1, cP_s, g1, if_pos (show nI G ≤ (7 : Int32) from nI_le (b := 7) c7 (by decide)), e2, cP_s, bdE]
      refine bestC (Q := fun r => ((∃ p, p < nrS R n ∧ ∀ σ, ¬ VS n d a (Pp (pnS R) p) σ) ∧ ∃ m3 : Me, r = some (-4, m3) ∧ Fm (fun o _ => o = 110 ∨ Sbc o 0) m1 m3) ∨ ∃ (m3 : Me) (g W : Nat → Nat), (∀ p, p < nrS R n → LB n d a (Pp (pnS R) p) g (W p)) ∧ (∀ k, k < n → m3.1 109 k = hI (g k)) ∧ Fm (fun o _ => o = 110 ∨ Sbc o 0) m1 m3 ∧ r = cP (f_NC_takeInHand m3) (fun m5 => some (nI (sumS W (nrS R n)), m5))) (C := pnS R) (N := nrS R n) i1 (j1.2.1.fr f2 (fun o j _ _ => by omega)) (k1.fr i1 f2 (fun o j _ => by omega)) q2 (fun k hk => by rw [f2 _ _ (by omega)]; exact pk1 k hk) cl N24 (by rw [f2 _ _ (by omega)]; exact pk2) cn ?_ ?_
      · intro no m3 f3
        exact Or.inl ⟨no, m3, rfl, (f2.mo (fun o j z => Or.inl z)).tr (f3.mo (fun o j z => Or.inr z))⟩
      · intro m3 g W lb gi f3
        exact Or.inr ⟨m3, g, W, lb, gi, (f2.mo (fun o j z => Or.inl z)).tr (f3.mo (fun o j z => Or.inr z)), rfl⟩
    -- the reference's loop
    have B : ∀ mc : Me, MM mc n d a → ((∃ p, p < nrS R n ∧ ∀ σ, ¬ VS n d a (Pp (pnS R) p) σ) ∧ ∃ m6 : Me, f_Mo_best mc = some (-4, m6) ∧ Fm SMq mc m6) ∨ ∃ (m6 : Me) (g : Nat → Nat), (∀ p, p < nrS R n → ∃ W, LB n d a (Pp (pnS R) p) g W) ∧ (∀ k, k < n → m6.1 219 k = nI (g k)) ∧ Fm SMq mc m6 ∧ f_Mo_best mc = cP (f_Mo_keep m6) (fun m7 => bd (fun (m8 : Me) => cP (f_Mo_worthInHand m8) (fun v9 => some (v9, m8))) (fun k111_ => ((fx (lb_Mo_best_85 k111_) (fun _ _ => none) FU) (0 : Int32) m7))) := by
      intro mc jc
      obtain ⟨m3, e3, f3⟩ := most mc jc
      obtain ⟨m5, e5, a5, O5, f5⟩ := findParts_ok i1 (mfr mc m3 jc f3)
      rw [hR] at e5 a5
      have f5' : Fm SMq m3 m5 := f5.mo (fun _ _ q => SFp_q q)
      have j5 := mfr mc m5 jc (f3.tr f5')
      have fr : ∀ m6 : Me, Fm Sbm m5 m6 → Fm SMq mc m6 := fun m6 f6 => (f3.tr f5').tr (f6.mo (fun o j z => by unfold Sbm SBo SD at z; unfold SMq; omega))
      unfold f_Mo_best
      rw [bdE, e3, cI_s, if_pos (show nI G ≤ (7 : Int32) from nI_le (b := 7) c7 (by decide)), e5, cI_s, bdE]
      refine bestM (Q := fun r => ((∃ p, p < nrS R n ∧ ∀ σ, ¬ VS n d a (Pp (pnS R) p) σ) ∧ ∃ m6 : Me, r = some (-4, m6) ∧ Fm SMq mc m6) ∨ ∃ (m6 : Me) (g : Nat → Nat), (∀ p, p < nrS R n → ∃ W, LB n d a (Pp (pnS R) p) g W) ∧ (∀ k, k < n → m6.1 219 k = nI (g k)) ∧ Fm SMq mc m6 ∧ r = cP (f_Mo_keep m6) (fun m7 => bd (fun (m8 : Me) => cP (f_Mo_worthInHand m8) (fun v9 => some (v9, m8))) (fun k111_ => ((fx (lb_Mo_best_85 k111_) (fun _ _ => none) FU) (0 : Int32) m7)))) (C := pnS R) (N := nrS R n) i1 j5 O5 a5 cl N24 ?_ ?_
      · intro no m6 f6
        exact Or.inl ⟨no, m6, rfl, fr m6 f6⟩
      · intro m6 g lb gi f6
        exact Or.inr ⟨m6, g, lb, gi, fr m6 f6, rfl⟩
    have cls3 : ∀ m3 : Me, Fm (fun o _ => o = 110 ∨ Sbc o 0) m1 m3 → Iv m3 n d a e h H := fun m3 f3 => j1.cls f3 (fun o j z => by unfold Sbc at z; omega) (j1.2.2.2.2.2.2.1.fr i1 f3 (by unfold Sbc; omega) (fun o j _ => by unfold Sbc; omega)) (j1.2.2.2.2.2.2.2.1.fr f3 (fun o j _ => by unfold Sbc; omega)) (j1.2.2.2.2.2.2.2.2.fr f3 (fun o j _ => by unfold Sbc; omega))
    rcases A with ⟨⟨p, hp, no⟩, m3, e3, f3⟩ | ⟨m3, g, W, lb, gi, f3, e3⟩
    · have j3 := cls3 m3 f3
      rcases B m3 j3.2.2.1 with ⟨-, m6, e6, f6⟩ | ⟨m6, g', lb', -, -, -⟩
      · exact ⟨-4, m3, m6, e3, e6, (j3.mod f6).inv⟩
      · obtain ⟨W', l⟩ := lb' p hp
        exact absurd l.1 (no g')
    · have j3 := cls3 m3 f3
      obtain ⟨m5, e5, C5, hc5, l5, p5, q5, f5⟩ := keep7 j3
      have f6 : Fm (fun o _ => o = 17) m5 (cpM m5 109 17 n) := fun o j w => by rw [cpM_1, if_neg (by omega)]
      have r6 : ∀ j, j < n → (cpM m5 109 17 n).1 17 j = hI (g j) := fun j hj => by
        rw [cpM_1, if_pos ⟨rfl, hj⟩, f5 _ _ (by unfold SKC; omega)]
        exact gi j hj
      have gOk : ∀ j, j < n → g j = 16 ∨ g j < waysS a j := fun j hj => by
        have := (lb _ (cl j hj)).1.1 j hj (decide_eq_true rfl)
        rcases this with z | z
        · exact Or.inl z.1
        · exact Or.inr (ow_lt z.2)
      have w6 : Fm SCl m3 (cpM m5 109 17 n) := (f5.mo (fun o j w => by unfold SKC at w; unfold SCl; omega)).tr (f6.mo (fun o j w => by unfold SCl; omega))
      have V7 : VV n d (up7 a g) := VV7 i1 gOk
      -- the class's memory as an invariant for the reference's questions
      obtain ⟨M6, hm6', -⟩ := toM j3 w6
      have A7 : f_NC_best m = some (nI (sumS W (nrS R n)), cpM m5 109 17 n) := by
        rw [e3]
        unfold f_NC_takeInHand
        rw [e5, cP_s, C5.1, ac_n (show n ≤ ln 109 from h24) (show n ≤ ln 17 from h24) (by omega), cP_s]
      rcases B (cpM m5 109 17 n) M6 with ⟨⟨p, hp, no⟩, -⟩ | ⟨m6, g', lb', gi', f6m, e6⟩
      · exact absurd (lb p hp).1 (no g)
      · have gg : ∀ k, k < n → g' k = g k := fun k hk => by
          obtain ⟨W', l'⟩ := lb' _ (cl k hk)
          exact (LB_uq l' (lb _ (cl k hk))).2 k hk (decide_eq_true rfl)
        have i4 := i.2.2.2.1
        obtain ⟨m7, e7, hm7, M7, f7⟩ := keepM i1 (mfr _ m6 M6 f6m) i4 (hm6'.fr i4 f6m (by unfold SMq; omega) (by unfold SMq; omega) (fun j => by unfold SMq; omega))
        have f67 : Fm SMo (cpM m5 109 17 n) m7 := (f6m.mo (fun o j z => by unfold SMq at z; unfold SMo; omega)).tr (f7.mo (fun o j z => by unfold SKM at z; unfold SMo; omega))
        have fin : ∃ m8 : Me, f_Mo_best (cpM m5 109 17 n) = some (nI (sumS W (nrS R n)), m8) ∧ Fm (fun o _ => o = 207) m7 m8 ∧ ∀ k, k < n → m8.1 207 k = nI (g k) := by
          rw [e6, e7, cP_s, bdE]
          refine best85 (g := g) (Q := fun r => ∃ m8 : Me, r = some (nI (sumS W (nrS R n)), m8) ∧ Fm (fun o _ => o = 207) m7 m8 ∧ ∀ k, k < n → m8.1 207 k = nI (g k)) i1 M7 (fun k hk => by rw [f7 _ _ (by unfold SKM; omega), gi' k hk, gg k hk]) ?_
          intro m8 f8 r8
          refine ⟨m8, ?_, f8, r8⟩
          have M8 : MM m8 n d (up7 a g) := MM7 M7 f8 (by omega) (by omega) (fun o j _ _ q => q) r8
          rw [moWorthIn_eq V7 M8, cP_s]
          have sw : sumS W (nrS R n) = sumS (ghS (up7 a g)) n := by
            rw [sum_cg (f := W) (g := fun p => sumS (fun k => if decide (pnS R k = p) = true then wgS a k (g k) else 0) n) (fun p hp => (lb p hp).2.1.symm), sum_ex (w := fun k => wgS a k (g k)) cl]
            rfl
          rw [sw]
        obtain ⟨m8, e8, f8, r8⟩ := fin
        exact ⟨_, cpM m5 109 17 n, m8, A7, e8, chg7 (S := fun o _ => o = 207) (g := g) j3 gOk C5 hc5 l5 p5 q5 f6 r6 hm7 M7 f67 f8 (fun o j z => Or.inl z) r8⟩
  · -- too large
    refine ⟨-6, m1, ?_⟩
    obtain ⟨m3, e3, f3⟩ := most m1 j1.2.2.1
    refine ⟨m3, ?_, ?_, (j1.mod f3).inv⟩
    · unfold f_NC_best
      rw [e1, cP_s, g1, if_neg (show ¬ nI G ≤ (7 : Int32) from nI_ge (a := 7) (by omega) (by omega))]
    · unfold f_Mo_best
      rw [bdE, e3, cI_s, if_neg (show ¬ nI G ≤ (7 : Int32) from nI_ge (a := 7) (by omega) (by omega))]
