/-! the law at one call -/
theorem lw_fin (xs : Nat → Int32) (m : hM) (l : Nat → Nat → Int64) (p : Nat → Option Nat) : w_L_law_18 4 xs (0 + 4) (hG m l p) = some (some (.int 1), hG m l p) := by
  rw [e_L_law_18, if_pos (by decide)]
def Lw (r : Option sx_R) : Prop := ∃ (m : hM) (l : Nat → Nat → Int64) (p : Nat → Option Nat), r = some (some (.int 1), hG m l p)
theorem lo_type (xs : Nat → Int32) : Lw (bI (f_X5_type [.ref 0, .int (xs (Int32.toNatClampNeg (0 + 1)))] hF) (fun x1 g2 => w_L_law_185 4 xs 0 x1 g2)) := by
  obtain ⟨m1, l1, p1, e1, h1⟩ := y_type (xs (Int32.toNatClampNeg (0 + 1)))
  obtain ⟨m2, l2, p2, e2⟩ := z_type h1 l1 p1 (xs (Int32.toNatClampNeg (0 + 1)))
  rw [e1, bI_i, e_L_law_185, if_pos (by decide), e2, bI_i, e_L_law_194, if_pos rfl, lw_fin]
  exact ⟨_, _, _, rfl⟩
theorem lo_clear (xs : Nat → Int32) : Lw (bI (f_X5_clear [.ref 0] hF) (fun x1 g2 => w_L_law_203 4 xs 0 x1 g2)) := by
  obtain ⟨m1, l1, p1, e1, h1⟩ := y_clear
  obtain ⟨m2, l2, p2, e2⟩ := z_clear h1 l1 p1
  rw [e1, bI_i, e_L_law_203, e2, bI_i, e_L_law_207, if_pos rfl, lw_fin]
  exact ⟨_, _, _, rfl⟩
theorem lo_meadow (xs : Nat → Int32) : Lw (bI (f_X5_meadow [.ref 0] hF) (fun x1 g2 => w_L_law_216 4 xs 0 x1 g2)) := by
  obtain ⟨m1, l1, p1, e1, h1⟩ := y_meadow
  obtain ⟨m2, l2, p2, e2⟩ := z_meadow h1 l1 p1
  rw [e1, bI_i, e_L_law_216, e2, bI_i, e_L_law_220, if_pos rfl, lw_fin]
  exact ⟨_, _, _, rfl⟩
theorem lo_flower (xs : Nat → Int32) : Lw (bI (f_X5_flower [.ref 0, .int (xs (Int32.toNatClampNeg (0 + 1))), .int (xs (Int32.toNatClampNeg (0 + 2)))] hF) (fun x1 g2 => w_L_law_239 4 xs 0 x1 g2)) := by
  obtain ⟨m1, l1, p1, e1, h1⟩ := y_flower (xs (Int32.toNatClampNeg (0 + 1))) (xs (Int32.toNatClampNeg (0 + 2)))
  obtain ⟨m2, l2, p2, e2⟩ := z_flower h1 l1 p1 (xs (Int32.toNatClampNeg (0 + 1))) (xs (Int32.toNatClampNeg (0 + 2)))
  rw [e1, bI_i, e_L_law_239, if_pos (by decide), if_pos (by decide), e2, bI_i, e_L_law_253, if_pos rfl, lw_fin]
  exact ⟨_, _, _, rfl⟩
theorem lo_link (xs : Nat → Int32) : Lw (bI (f_X5_link [.ref 0, .int (xs (Int32.toNatClampNeg (0 + 1)))] hF) (fun x1 g2 => w_L_law_267 4 xs 0 x1 g2)) := by
  obtain ⟨m1, l1, p1, e1, h1⟩ := y_link (xs (Int32.toNatClampNeg (0 + 1)))
  obtain ⟨m2, l2, p2, e2⟩ := z_link h1 l1 p1 (xs (Int32.toNatClampNeg (0 + 1)))
  rw [e1, bI_i, e_L_law_267, if_pos (by decide), e2, bI_i, e_L_law_276, if_pos rfl, lw_fin]
  exact ⟨_, _, _, rfl⟩
theorem lo_now (xs : Nat → Int32) : Lw (bI (f_X5_now [.ref 0, .int (xs (Int32.toNatClampNeg (0 + 1)))] hF) (fun x1 g2 => w_L_law_290 4 xs 0 x1 g2)) := by
  obtain ⟨m1, l1, p1, e1, h1⟩ := y_now (xs (Int32.toNatClampNeg (0 + 1)))
  obtain ⟨m2, l2, p2, e2⟩ := z_now h1 l1 p1 (xs (Int32.toNatClampNeg (0 + 1)))
  rw [e1, bI_i, e_L_law_290, if_pos (by decide), e2, bI_i, e_L_law_299, if_pos rfl, lw_fin]
  exact ⟨_, _, _, rfl⟩
theorem lo_picks (xs : Nat → Int32) : Lw (bI (f_X5_picks [.ref 0, .int (xs (Int32.toNatClampNeg (0 + 1)))] hF) (fun x1 g2 => w_L_law_313 4 xs 0 x1 g2)) := by
  obtain ⟨m1, l1, p1, e1, h1⟩ := y_picks (xs (Int32.toNatClampNeg (0 + 1)))
  obtain ⟨m2, l2, p2, e2⟩ := z_picks h1 l1 p1 (xs (Int32.toNatClampNeg (0 + 1)))
  rw [e1, bI_i, e_L_law_313, if_pos (by decide), e2, bI_i, e_L_law_322, if_pos rfl, lw_fin]
  exact ⟨_, _, _, rfl⟩
theorem lo_slits (xs : Nat → Int32) : Lw (bI (f_X5_slits [.ref 0, .int (xs (Int32.toNatClampNeg (0 + 1))), .int (xs (Int32.toNatClampNeg (0 + 2))), .int (xs (Int32.toNatClampNeg (0 + 3)))] hF) (fun x1 g2 => w_L_law_346 4 xs 0 x1 g2)) := by
  obtain ⟨m1, l1, p1, e1, h1⟩ := y_slits (xs (Int32.toNatClampNeg (0 + 1))) (xs (Int32.toNatClampNeg (0 + 2))) (xs (Int32.toNatClampNeg (0 + 3)))
  obtain ⟨m2, l2, p2, e2⟩ := z_slits h1 l1 p1 (xs (Int32.toNatClampNeg (0 + 1))) (xs (Int32.toNatClampNeg (0 + 2))) (xs (Int32.toNatClampNeg (0 + 3)))
  rw [e1, bI_i, e_L_law_346, if_pos (by decide), if_pos (by decide), if_pos (by decide), e2, bI_i, e_L_law_365, if_pos rfl, lw_fin]
  exact ⟨_, _, _, rfl⟩
theorem lo_threads (xs : Nat → Int32) : Lw (bI (f_X5_threads [.ref 0, .int (xs (Int32.toNatClampNeg (0 + 1)))] hF) (fun x1 g2 => w_L_law_379 4 xs 0 x1 g2)) := by
  obtain ⟨m1, l1, p1, e1, h1⟩ := y_threads (xs (Int32.toNatClampNeg (0 + 1)))
  obtain ⟨m2, l2, p2, e2⟩ := z_threads h1 l1 p1 (xs (Int32.toNatClampNeg (0 + 1)))
  rw [e1, bI_i, e_L_law_379, if_pos (by decide), e2, bI_i, e_L_law_388, if_pos rfl, lw_fin]
  exact ⟨_, _, _, rfl⟩
theorem lo_pulls (xs : Nat → Int32) : Lw (bI (f_X5_pulls [.ref 0] hF) (fun x1 g2 => w_L_law_397 4 xs 0 x1 g2)) := by
  obtain ⟨m1, l1, p1, e1, h1⟩ := y_pulls
  obtain ⟨m2, l2, p2, e2⟩ := z_pulls h1 l1 p1
  rw [e1, bI_i, e_L_law_397, e2, bI_i, e_L_law_401, if_pos rfl, lw_fin]
  exact ⟨_, _, _, rfl⟩
theorem lo_minutes (xs : Nat → Int32) : Lw (bI (f_X5_minutes [.ref 0, .int (xs (Int32.toNatClampNeg (0 + 1)))] hF) (fun x1 g2 => w_L_law_415 4 xs 0 x1 g2)) := by
  obtain ⟨m1, l1, p1, e1, h1⟩ := y_minutes (xs (Int32.toNatClampNeg (0 + 1)))
  obtain ⟨m2, l2, p2, e2⟩ := z_minutes h1 l1 p1 (xs (Int32.toNatClampNeg (0 + 1)))
  rw [e1, bI_i, e_L_law_415, if_pos (by decide), e2, bI_i, e_L_law_424, if_pos rfl, lw_fin]
  exact ⟨_, _, _, rfl⟩
theorem lo_water (xs : Nat → Int32) : Lw (bI (f_X5_water [.ref 0, .int (xs (Int32.toNatClampNeg (0 + 1)))] hF) (fun x1 g2 => w_L_law_438 4 xs 0 x1 g2)) := by
  obtain ⟨m1, l1, p1, e1, h1⟩ := y_water (xs (Int32.toNatClampNeg (0 + 1)))
  obtain ⟨m2, l2, p2, e2⟩ := z_water h1 l1 p1 (xs (Int32.toNatClampNeg (0 + 1)))
  rw [e1, bI_i, e_L_law_438, if_pos (by decide), e2, bI_i, e_L_law_447, if_pos rfl, lw_fin]
  exact ⟨_, _, _, rfl⟩
theorem lo_undo (xs : Nat → Int32) : Lw (bI (f_X5_undo [.ref 0] hF) (fun x1 g2 => w_L_law_456 4 xs 0 x1 g2)) := by
  obtain ⟨m1, l1, p1, e1, h1⟩ := y_undo
  obtain ⟨m2, l2, p2, e2⟩ := z_undo h1 l1 p1
  rw [e1, bI_i, e_L_law_456, e2, bI_i, e_L_law_460, if_pos rfl, lw_fin]
  exact ⟨_, _, _, rfl⟩
theorem lo_weakest (xs : Nat → Int32) : Lw (bI (f_X5_weakest [.ref 0, .int (xs (Int32.toNatClampNeg (0 + 1)))] hF) (fun x1 g2 => w_L_law_474 4 xs 0 x1 g2)) := by
  obtain ⟨m1, l1, p1, e1, h1⟩ := y_weakest (xs (Int32.toNatClampNeg (0 + 1)))
  obtain ⟨m2, l2, p2, e2⟩ := z_weakest h1 l1 p1 (xs (Int32.toNatClampNeg (0 + 1)))
  rw [e1, bI_i, e_L_law_474, if_pos (by decide), e2, bI_i, e_L_law_483, if_pos rfl, lw_fin]
  exact ⟨_, _, _, rfl⟩
theorem lo_hung (xs : Nat → Int32) : Lw (bI (f_X5_hung [.ref 0] hF) (fun x1 g2 => w_L_law_492 4 xs 0 x1 g2)) := by
  obtain ⟨m1, l1, p1, e1, h1⟩ := y_hung
  obtain ⟨m2, l2, p2, e2⟩ := z_hung h1 l1 p1
  rw [e1, bI_i, e_L_law_492, e2, bI_i, e_L_law_496, if_pos rfl, lw_fin]
  exact ⟨_, _, _, rfl⟩
theorem lo_inTime (xs : Nat → Int32) : Lw (bI (f_X5_inTime [.ref 0, .int (xs (Int32.toNatClampNeg (0 + 1)))] hF) (fun x1 g2 => w_L_law_510 4 xs 0 x1 g2)) := by
  obtain ⟨m1, l1, p1, e1, h1⟩ := y_inTime (xs (Int32.toNatClampNeg (0 + 1)))
  obtain ⟨m2, l2, p2, e2⟩ := z_inTime h1 l1 p1 (xs (Int32.toNatClampNeg (0 + 1)))
  rw [e1, bI_i, e_L_law_510, if_pos (by decide), e2, bI_i, e_L_law_519, if_pos rfl, lw_fin]
  exact ⟨_, _, _, rfl⟩
theorem lo_props (xs : Nat → Int32) : Lw (bI (f_X5_props [.ref 0, .int (xs (Int32.toNatClampNeg (0 + 1)))] hF) (fun x1 g2 => w_L_law_533 4 xs 0 x1 g2)) := by
  obtain ⟨m1, l1, p1, e1, h1⟩ := y_props (xs (Int32.toNatClampNeg (0 + 1)))
  obtain ⟨m2, l2, p2, e2⟩ := z_props h1 l1 p1 (xs (Int32.toNatClampNeg (0 + 1)))
  rw [e1, bI_i, e_L_law_533, if_pos (by decide), e2, bI_i, e_L_law_542, if_pos rfl, lw_fin]
  exact ⟨_, _, _, rfl⟩
theorem lo_ring (xs : Nat → Int32) : Lw (bI (f_X5_ring [.ref 0] hF) (fun x1 g2 => w_L_law_551 4 xs 0 x1 g2)) := by
  obtain ⟨m1, l1, p1, e1, h1⟩ := y_ring
  obtain ⟨m2, l2, p2, e2⟩ := z_ring h1 l1 p1
  rw [e1, bI_i, e_L_law_551, e2, bI_i, e_L_law_555, if_pos rfl, lw_fin]
  exact ⟨_, _, _, rfl⟩
theorem lo_loves (xs : Nat → Int32) : Lw (bI (f_X5_loves [.ref 0] hF) (fun x1 g2 => w_L_law_564 4 xs 0 x1 g2)) := by
  obtain ⟨m1, l1, p1, e1, h1⟩ := y_loves
  obtain ⟨m2, l2, p2, e2⟩ := z_loves h1 l1 p1
  rw [e1, bI_i, e_L_law_564, e2, bI_i, e_L_law_568, if_pos rfl, lw_fin]
  exact ⟨_, _, _, rfl⟩
theorem lo_bestSlit (xs : Nat → Int32) : Lw (bI (f_X5_bestSlit [.ref 0, .int (xs (Int32.toNatClampNeg (0 + 1))), .int (xs (Int32.toNatClampNeg (0 + 2))), .int (xs (Int32.toNatClampNeg (0 + 3)))] hF) (fun x1 g2 => w_L_law_592 4 xs 0 x1 g2)) := by
  obtain ⟨m1, l1, p1, e1, h1⟩ := y_bestSlit (xs (Int32.toNatClampNeg (0 + 1))) (xs (Int32.toNatClampNeg (0 + 2))) (xs (Int32.toNatClampNeg (0 + 3)))
  obtain ⟨m2, l2, p2, e2⟩ := z_bestSlit h1 l1 p1 (xs (Int32.toNatClampNeg (0 + 1))) (xs (Int32.toNatClampNeg (0 + 2))) (xs (Int32.toNatClampNeg (0 + 3)))
  rw [e1, bI_i, e_L_law_592, if_pos (by decide), if_pos (by decide), if_pos (by decide), e2, bI_i, e_L_law_611, if_pos rfl, lw_fin]
  exact ⟨_, _, _, rfl⟩
theorem lo_longest (xs : Nat → Int32) : Lw (bI (f_X5_longest [.ref 0, .int (xs (Int32.toNatClampNeg (0 + 1))), .int (xs (Int32.toNatClampNeg (0 + 2)))] hF) (fun x1 g2 => w_L_law_630 4 xs 0 x1 g2)) := by
  obtain ⟨m1, l1, p1, e1, h1⟩ := y_longest (xs (Int32.toNatClampNeg (0 + 1))) (xs (Int32.toNatClampNeg (0 + 2)))
  obtain ⟨m2, l2, p2, e2⟩ := z_longest h1 l1 p1 (xs (Int32.toNatClampNeg (0 + 1))) (xs (Int32.toNatClampNeg (0 + 2)))
  rw [e1, bI_i, e_L_law_630, if_pos (by decide), if_pos (by decide), e2, bI_i, e_L_law_644, if_pos rfl, lw_fin]
  exact ⟨_, _, _, rfl⟩
theorem lo_fewest (xs : Nat → Int32) : Lw (bI (f_X5_fewest [.ref 0, .int (xs (Int32.toNatClampNeg (0 + 1))), .int (xs (Int32.toNatClampNeg (0 + 2)))] hF) (fun x1 g2 => w_L_law_663 4 xs 0 x1 g2)) := by
  obtain ⟨m1, l1, p1, e1, h1⟩ := y_fewest (xs (Int32.toNatClampNeg (0 + 1))) (xs (Int32.toNatClampNeg (0 + 2)))
  obtain ⟨m2, l2, p2, e2⟩ := z_fewest h1 l1 p1 (xs (Int32.toNatClampNeg (0 + 1))) (xs (Int32.toNatClampNeg (0 + 2)))
  rw [e1, bI_i, e_L_law_663, if_pos (by decide), if_pos (by decide), e2, bI_i, e_L_law_677, if_pos rfl, lw_fin]
  exact ⟨_, _, _, rfl⟩
theorem lo_row (xs : Nat → Int32) : Lw (bI (f_X5_row [.ref 0, .int (xs (Int32.toNatClampNeg (0 + 1))), .int (xs (Int32.toNatClampNeg (0 + 2))), .int (xs (Int32.toNatClampNeg (0 + 3)))] hF) (fun x1 g2 => w_L_law_701 4 xs 0 x1 g2)) := by
  obtain ⟨m1, l1, p1, e1, h1⟩ := y_row (xs (Int32.toNatClampNeg (0 + 1))) (xs (Int32.toNatClampNeg (0 + 2))) (xs (Int32.toNatClampNeg (0 + 3)))
  obtain ⟨m2, l2, p2, e2⟩ := z_row h1 l1 p1 (xs (Int32.toNatClampNeg (0 + 1))) (xs (Int32.toNatClampNeg (0 + 2))) (xs (Int32.toNatClampNeg (0 + 3)))
  rw [e1, bI_i, e_L_law_701, if_pos (by decide), if_pos (by decide), if_pos (by decide), e2, bI_i, e_L_law_720, if_pos rfl, lw_fin]
  exact ⟨_, _, _, rfl⟩
theorem lo_seen (xs : Nat → Int32) : Lw (bI (f_X5_seen [.ref 0, .int (xs (Int32.toNatClampNeg (0 + 1))), .int (xs (Int32.toNatClampNeg (0 + 2)))] hF) (fun x1 g2 => w_L_law_739 4 xs 0 x1 g2)) := by
  obtain ⟨m1, l1, p1, e1, h1⟩ := y_seen (xs (Int32.toNatClampNeg (0 + 1))) (xs (Int32.toNatClampNeg (0 + 2)))
  obtain ⟨m2, l2, p2, e2⟩ := z_seen h1 l1 p1 (xs (Int32.toNatClampNeg (0 + 1))) (xs (Int32.toNatClampNeg (0 + 2)))
  rw [e1, bI_i, e_L_law_739, if_pos (by decide), if_pos (by decide), e2, bI_i, e_L_law_753, if_pos rfl, lw_fin]
  exact ⟨_, _, _, rfl⟩
theorem lo_forget (xs : Nat → Int32) : Lw (bI (f_X5_forget [.ref 0] hF) (fun x1 g2 => w_L_law_762 4 xs 0 x1 g2)) := by
  obtain ⟨m1, l1, p1, e1, h1⟩ := y_forget
  obtain ⟨m2, l2, p2, e2⟩ := z_forget h1 l1 p1
  rw [e1, bI_i, e_L_law_762, e2, bI_i, e_L_law_766, if_pos rfl, lw_fin]
  exact ⟨_, _, _, rfl⟩
theorem lo_wilts (xs : Nat → Int32) : Lw (bI (f_X5_wilts [.ref 0] hF) (fun x1 g2 => w_L_law_775 4 xs 0 x1 g2)) := by
  obtain ⟨m1, l1, p1, e1, h1⟩ := y_wilts
  obtain ⟨m2, l2, p2, e2⟩ := z_wilts h1 l1 p1
  rw [e1, bI_i, e_L_law_775, e2, bI_i, e_L_law_779, if_pos rfl, lw_fin]
  exact ⟨_, _, _, rfl⟩
theorem lo_odds (xs : Nat → Int32) : Lw (bI (f_X5_odds [.ref 0, .int (xs (Int32.toNatClampNeg (0 + 1))), .int (xs (Int32.toNatClampNeg (0 + 2))), .int (xs (Int32.toNatClampNeg (0 + 3)))] hF) (fun x1 g2 => w_L_law_803 4 xs 0 x1 g2)) := by
  obtain ⟨m1, l1, p1, e1, h1⟩ := y_odds (xs (Int32.toNatClampNeg (0 + 1))) (xs (Int32.toNatClampNeg (0 + 2))) (xs (Int32.toNatClampNeg (0 + 3)))
  obtain ⟨m2, l2, p2, e2⟩ := z_odds h1 l1 p1 (xs (Int32.toNatClampNeg (0 + 1))) (xs (Int32.toNatClampNeg (0 + 2))) (xs (Int32.toNatClampNeg (0 + 3)))
  rw [e1, bI_i, e_L_law_803, if_pos (by decide), if_pos (by decide), if_pos (by decide), e2, bI_i, e_L_law_822, if_pos rfl, lw_fin]
  exact ⟨_, _, _, rfl⟩
theorem lo_rate (xs : Nat → Int32) : Lw (bI (f_X5_rate [.ref 0, .int (xs (Int32.toNatClampNeg (0 + 1))), .int (xs (Int32.toNatClampNeg (0 + 2)))] hF) (fun x1 g2 => w_L_law_841 4 xs 0 x1 g2)) := by
  obtain ⟨m1, l1, p1, e1, h1⟩ := y_rate (xs (Int32.toNatClampNeg (0 + 1))) (xs (Int32.toNatClampNeg (0 + 2)))
  obtain ⟨m2, l2, p2, e2⟩ := z_rate h1 l1 p1 (xs (Int32.toNatClampNeg (0 + 1))) (xs (Int32.toNatClampNeg (0 + 2)))
  rw [e1, bI_i, e_L_law_841, if_pos (by decide), if_pos (by decide), e2, bI_i, e_L_law_855, if_pos rfl, lw_fin]
  exact ⟨_, _, _, rfl⟩
theorem lo_keep (xs : Nat → Int32) : Lw (bI (f_X5_keep [.ref 0, .int (xs (Int32.toNatClampNeg (0 + 1)))] hF) (fun x1 g2 => w_L_law_869 4 xs 0 x1 g2)) := by
  obtain ⟨m1, l1, p1, e1, h1⟩ := y_keep (xs (Int32.toNatClampNeg (0 + 1)))
  obtain ⟨m2, l2, p2, e2⟩ := z_keep h1 l1 p1 (xs (Int32.toNatClampNeg (0 + 1)))
  rw [e1, bI_i, e_L_law_869, if_pos (by decide), e2, bI_i, e_L_law_878, if_pos rfl, lw_fin]
  exact ⟨_, _, _, rfl⟩
theorem lo_back (xs : Nat → Int32) : Lw (bI (f_X5_back [.ref 0, .int (xs (Int32.toNatClampNeg (0 + 1)))] hF) (fun x1 g2 => w_L_law_892 4 xs 0 x1 g2)) := by
  obtain ⟨m1, l1, p1, e1, h1⟩ := y_back (xs (Int32.toNatClampNeg (0 + 1)))
  obtain ⟨m2, l2, p2, e2⟩ := z_back h1 l1 p1 (xs (Int32.toNatClampNeg (0 + 1)))
  rw [e1, bI_i, e_L_law_892, if_pos (by decide), e2, bI_i, e_L_law_901, if_pos rfl, lw_fin]
  exact ⟨_, _, _, rfl⟩
theorem lo_count (xs : Nat → Int32) : Lw (bI (f_X5_count [.ref 0, .int (xs (Int32.toNatClampNeg (0 + 1)))] hF) (fun x1 g2 => w_L_law_915 4 xs 0 x1 g2)) := by
  obtain ⟨m1, l1, p1, e1, h1⟩ := y_count (xs (Int32.toNatClampNeg (0 + 1)))
  obtain ⟨m2, l2, p2, e2⟩ := z_count h1 l1 p1 (xs (Int32.toNatClampNeg (0 + 1)))
  rw [e1, bI_i, e_L_law_915, if_pos (by decide), e2, bI_i, e_L_law_924, if_pos rfl, lw_fin]
  exact ⟨_, _, _, rfl⟩
theorem lo_trace (xs : Nat → Int32) : Lw (bL (f_X5_trace [.ref 0] hF) (fun x1 g2 => w_L_law_933 4 xs 0 x1 g2)) := by
  rw [y_trace, bL_l, e_L_law_933, e_X6_trace, bL_l, e_L_law_937, if_pos (by decide), lw_fin]
  exact ⟨_, _, _, rfl⟩
theorem lw_one (L : Nat) (xs : Nat → Int32) (hL : L ≤ 4) : Lw (w_L_law_18 L xs 0 hF) := by
  by_cases h4 : L = 4
  · subst h4
    rw [e_L_law_18, if_neg (by decide), if_pos (by decide)]
    by_cases q : (xs (Int32.toNatClampNeg 0) &&& 31) = 0
    · rw [if_pos q, if_pos (by decide)]; exact lo_type xs
    rw [if_neg q]
    by_cases q : (xs (Int32.toNatClampNeg 0) &&& 31) = 1
    · rw [if_pos q]; exact lo_clear xs
    rw [if_neg q]
    by_cases q : (xs (Int32.toNatClampNeg 0) &&& 31) = 2
    · rw [if_pos q]; exact lo_meadow xs
    rw [if_neg q]
    by_cases q : (xs (Int32.toNatClampNeg 0) &&& 31) = 3
    · rw [if_pos q, if_pos (by decide), if_pos (by decide)]; exact lo_flower xs
    rw [if_neg q]
    by_cases q : (xs (Int32.toNatClampNeg 0) &&& 31) = 4
    · rw [if_pos q, if_pos (by decide)]; exact lo_link xs
    rw [if_neg q]
    by_cases q : (xs (Int32.toNatClampNeg 0) &&& 31) = 5
    · rw [if_pos q, if_pos (by decide)]; exact lo_now xs
    rw [if_neg q]
    by_cases q : (xs (Int32.toNatClampNeg 0) &&& 31) = 6
    · rw [if_pos q, if_pos (by decide)]; exact lo_picks xs
    rw [if_neg q]
    by_cases q : (xs (Int32.toNatClampNeg 0) &&& 31) = 7
    · rw [if_pos q, if_pos (by decide), if_pos (by decide), if_pos (by decide)]; exact lo_slits xs
    rw [if_neg q]
    by_cases q : (xs (Int32.toNatClampNeg 0) &&& 31) = 8
    · rw [if_pos q, if_pos (by decide)]; exact lo_threads xs
    rw [if_neg q]
    by_cases q : (xs (Int32.toNatClampNeg 0) &&& 31) = 9
    · rw [if_pos q]; exact lo_pulls xs
    rw [if_neg q]
    by_cases q : (xs (Int32.toNatClampNeg 0) &&& 31) = 10
    · rw [if_pos q, if_pos (by decide)]; exact lo_minutes xs
    rw [if_neg q]
    by_cases q : (xs (Int32.toNatClampNeg 0) &&& 31) = 11
    · rw [if_pos q, if_pos (by decide)]; exact lo_water xs
    rw [if_neg q]
    by_cases q : (xs (Int32.toNatClampNeg 0) &&& 31) = 12
    · rw [if_pos q]; exact lo_undo xs
    rw [if_neg q]
    by_cases q : (xs (Int32.toNatClampNeg 0) &&& 31) = 13
    · rw [if_pos q, if_pos (by decide)]; exact lo_weakest xs
    rw [if_neg q]
    by_cases q : (xs (Int32.toNatClampNeg 0) &&& 31) = 14
    · rw [if_pos q]; exact lo_hung xs
    rw [if_neg q]
    by_cases q : (xs (Int32.toNatClampNeg 0) &&& 31) = 15
    · rw [if_pos q, if_pos (by decide)]; exact lo_inTime xs
    rw [if_neg q]
    by_cases q : (xs (Int32.toNatClampNeg 0) &&& 31) = 16
    · rw [if_pos q, if_pos (by decide)]; exact lo_props xs
    rw [if_neg q]
    by_cases q : (xs (Int32.toNatClampNeg 0) &&& 31) = 17
    · rw [if_pos q]; exact lo_ring xs
    rw [if_neg q]
    by_cases q : (xs (Int32.toNatClampNeg 0) &&& 31) = 18
    · rw [if_pos q]; exact lo_loves xs
    rw [if_neg q]
    by_cases q : (xs (Int32.toNatClampNeg 0) &&& 31) = 19
    · rw [if_pos q, if_pos (by decide), if_pos (by decide), if_pos (by decide)]; exact lo_bestSlit xs
    rw [if_neg q]
    by_cases q : (xs (Int32.toNatClampNeg 0) &&& 31) = 20
    · rw [if_pos q, if_pos (by decide), if_pos (by decide)]; exact lo_longest xs
    rw [if_neg q]
    by_cases q : (xs (Int32.toNatClampNeg 0) &&& 31) = 21
    · rw [if_pos q, if_pos (by decide), if_pos (by decide)]; exact lo_fewest xs
    rw [if_neg q]
    by_cases q : (xs (Int32.toNatClampNeg 0) &&& 31) = 22
    · rw [if_pos q, if_pos (by decide), if_pos (by decide), if_pos (by decide)]; exact lo_row xs
    rw [if_neg q]
    by_cases q : (xs (Int32.toNatClampNeg 0) &&& 31) = 23
    · rw [if_pos q, if_pos (by decide), if_pos (by decide)]; exact lo_seen xs
    rw [if_neg q]
    by_cases q : (xs (Int32.toNatClampNeg 0) &&& 31) = 24
    · rw [if_pos q]; exact lo_forget xs
    rw [if_neg q]
    by_cases q : (xs (Int32.toNatClampNeg 0) &&& 31) = 25
    · rw [if_pos q]; exact lo_wilts xs
    rw [if_neg q]
    by_cases q : (xs (Int32.toNatClampNeg 0) &&& 31) = 26
    · rw [if_pos q, if_pos (by decide), if_pos (by decide), if_pos (by decide)]; exact lo_odds xs
    rw [if_neg q]
    by_cases q : (xs (Int32.toNatClampNeg 0) &&& 31) = 27
    · rw [if_pos q, if_pos (by decide), if_pos (by decide)]; exact lo_rate xs
    rw [if_neg q]
    by_cases q : (xs (Int32.toNatClampNeg 0) &&& 31) = 28
    · rw [if_pos q, if_pos (by decide)]; exact lo_keep xs
    rw [if_neg q]
    by_cases q : (xs (Int32.toNatClampNeg 0) &&& 31) = 29
    · rw [if_pos q, if_pos (by decide)]; exact lo_back xs
    rw [if_neg q]
    by_cases q : (xs (Int32.toNatClampNeg 0) &&& 31) = 30
    · rw [if_pos q, if_pos (by decide)]; exact lo_count xs
    rw [if_neg q]
    by_cases q : (xs (Int32.toNatClampNeg 0) &&& 31) = 31
    · rw [if_pos q]; exact lo_trace xs
    rw [if_neg q]
    rw [lw_fin]; exact ⟨_, _, _, rfl⟩
  · rcases (show L = 0 ∨ L = 1 ∨ L = 2 ∨ L = 3 by omega) with rfl | rfl | rfl | rfl
    · rw [e_L_law_18, if_pos (by decide)]; exact ⟨_, _, _, rfl⟩
    · rw [e_L_law_18, if_pos (by decide)]; exact ⟨_, _, _, rfl⟩
    · rw [e_L_law_18, if_pos (by decide)]; exact ⟨_, _, _, rfl⟩
    · rw [e_L_law_18, if_pos (by decide)]; exact ⟨_, _, _, rfl⟩
