/-! PURE PART: one clash for both sides -/
def clS (a : Ch) (i w j v z : Nat) : Prop :=
  hitI (ledS a i w) (ledS a j v) (lS a i w z) (tS a i w z) (lS a i w z + bwS a i w) (tS a i w z + bhS a i w) (2 * ((a 2 i * 2 ^ z : Nat) : Int)) (2 * ((a 3 i * 2 ^ z : Nat) : Int)) (2 * lS a i w z + bwS a i w) (2 * tS a i w z + bhS a i w)
    (lS a j v z) (tS a j v z) (lS a j v z + bwS a j v) (tS a j v z + bhS a j v) (2 * ((a 2 j * 2 ^ z : Nat) : Int)) (2 * ((a 3 j * 2 ^ z : Nat) : Int)) (2 * lS a j v z + bwS a j v) (2 * tS a j v z + bhS a j v)
theorem box_rg {a : Ch} {i w z : Nat} (hz : z < 7) (hN : NmS a i) : Rg (lS a i w z) (tS a i w z) (lS a i w z + bwS a i w) (tS a i w z + bhS a i w) (2 * ((a 2 i * 2 ^ z : Nat) : Int)) (2 * ((a 3 i * 2 ^ z : Nat) : Int)) (2 * lS a i w z + bwS a i w) (2 * tS a i w z + bhS a i w) := by
  obtain ⟨g1, g2, g3, g4, g5, g6, g7, g8, g9, g10⟩ := lt_rg (w := w) hz hN
  unfold Rg
  omega
theorem led_nd {a : Ch} {i w z : Nat} (h : ledS a i w = true) : 2 * lS a i w z + bwS a i w ≠ 2 * ((a 2 i * 2 ^ z : Nat) : Int) ∨ 2 * tS a i w z + bhS a i w ≠ 2 * ((a 3 i * 2 ^ z : Nat) : Int) := by
  have ho : offS a i w = 40 := by unfold offS; rw [if_pos h]
  unfold lS tS
  rw [ho]
  have hk : w % 8 < 8 := by omega
  generalize w % 8 = k at hk ⊢
  generalize bwS a i w = W
  generalize bhS a i w = Hh
  generalize a 2 i * 2 ^ z = X
  generalize a 3 i * 2 ^ z = Y
  unfold stS
  rcases (show k = 0 ∨ k = 1 ∨ k = 2 ∨ k = 3 ∨ k = 4 ∨ k = 5 ∨ k = 6 ∨ k = 7 by omega) with rfl | rfl | rfl | rfl | rfl | rfl | rfl | rfl
  · left; show 2 * ((X : Int) + (40 : Nat)) + W ≠ 2 * (X : Int); omega
  · left; show 2 * ((X : Int) - (40 : Nat) - W) + W ≠ 2 * (X : Int); omega
  · left; show 2 * ((X : Int) - (40 : Nat) - W) + W ≠ 2 * (X : Int); omega
  · left; show 2 * ((X : Int) + (40 : Nat)) + W ≠ 2 * (X : Int); omega
  · left; show 2 * ((X : Int) + (40 : Nat)) + W ≠ 2 * (X : Int); omega
  · left; show 2 * ((X : Int) - (40 : Nat) - W) + W ≠ 2 * (X : Int); omega
  · right; show 2 * ((Y : Int) - (40 : Nat) - Hh) + Hh ≠ 2 * (Y : Int); omega
  · right; show 2 * ((Y : Int) + (40 : Nat)) + Hh ≠ 2 * (Y : Int); omega
theorem boxAt_hits {m : Me} {o o2 : Nat} {a : Ch} {i w j v z : Nat} (hz : z < 7) (hN1 : NmS a i) (hN2 : NmS a j) (h : BoxAt m o a i w z) (g : BoxAt m o2 a j v z) : IsB (f_Box_hits o o2 m) (clS a i w j v z) := by
  obtain ⟨h0, h1, h2, h3, h4, h5, h6, h7, h8⟩ := h
  obtain ⟨g0, g1, g2, g3, g4, g5, g6, g7, g8⟩ := g
  exact hits_ok ⟨h0, h1, h2, h3, h5, h6, h7, h8⟩ ⟨g0, g1, g2, g3, g5, g6, g7, g8⟩ (box_rg hz hN1) (box_rg hz hN2) h4 g4
