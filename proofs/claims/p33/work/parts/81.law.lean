/-! the law -/
theorem lz_in {i L j : Nat} (hi : i + 4 ≤ L) (hL : L ≤ 256) (hj : j ≤ 3) : sx_in (nI i + nI j) L := by
  rw [nI_add]; exact in_nI (by omega) (by omega)
theorem lz_1 {i L : Nat} (hi : i + 4 ≤ L) (hL : L ≤ 256) : sx_in (nI i + 1) L := lz_in (j := 1) hi hL (by omega)
theorem lz_2 {i L : Nat} (hi : i + 4 ≤ L) (hL : L ≤ 256) : sx_in (nI i + 2) L := lz_in (j := 2) hi hL (by omega)
theorem lz_3 {i L : Nat} (hi : i + 4 ≤ L) (hL : L ≤ 256) : sx_in (nI i + 3) L := lz_in (j := 3) hi hL (by omega)
theorem lg_same (T : Int64) : lg_cmp T T = 0 := by
  unfold lg_cmp
  simp
theorem lo_type (L : Nat) (xs : Nat → Int32) (i : Nat) (hi : i + 4 ≤ L) (hL : L ≤ 256) (ih : ∀ m l p, Rel m l p → Lw (w_L_law_18 L xs (nI (i + 4)) (hG m l p))) {m : hM} {l : Nat → Nat → Int64} {p : Nat → Option Nat} {S : pS} {T : Int64} (ok : Ok S) (kc : Cl m l p S T) (km : Ml m l S T) : Lw (bI (f_X5_type [.ref 0, .int (xs (Int32.toNatClampNeg (nI i + 1)))] (hG m l p)) (fun x1 g2 => w_L_law_185 L xs (nI i) x1 g2)) := by
  obtain ⟨v, m1, l1, p1, m2, l2, e1, e2, r⟩ := lw_B (b_type ok T (xs (Int32.toNatClampNeg (nI i + 1)))) kc km
  rw [e1, bI_i, e_L_law_185, if_pos (lz_1 hi hL), e2, bI_i, e_L_law_195, show nI i + 4 = nI (i + 4) from nI_add i 4]
  exact ih _ _ _ r
theorem lo_clear (L : Nat) (xs : Nat → Int32) (i : Nat) (hi : i + 4 ≤ L) (hL : L ≤ 256) (ih : ∀ m l p, Rel m l p → Lw (w_L_law_18 L xs (nI (i + 4)) (hG m l p))) {m : hM} {l : Nat → Nat → Int64} {p : Nat → Option Nat} {S : pS} {T : Int64} (ok : Ok S) (kc : Cl m l p S T) (km : Ml m l S T) : Lw (bI (f_X5_clear [.ref 0] (hG m l p)) (fun x1 g2 => w_L_law_203 L xs (nI i) x1 g2)) := by
  obtain ⟨v, m1, l1, p1, m2, l2, e1, e2, r⟩ := lw_B (b_clear ok T) kc km
  rw [e1, bI_i, e_L_law_203, e2, bI_i, e_L_law_208, show nI i + 4 = nI (i + 4) from nI_add i 4]
  exact ih _ _ _ r
theorem lo_meadow (L : Nat) (xs : Nat → Int32) (i : Nat) (hi : i + 4 ≤ L) (hL : L ≤ 256) (ih : ∀ m l p, Rel m l p → Lw (w_L_law_18 L xs (nI (i + 4)) (hG m l p))) {m : hM} {l : Nat → Nat → Int64} {p : Nat → Option Nat} {S : pS} {T : Int64} (ok : Ok S) (kc : Cl m l p S T) (km : Ml m l S T) : Lw (bI (f_X5_meadow [.ref 0] (hG m l p)) (fun x1 g2 => w_L_law_216 L xs (nI i) x1 g2)) := by
  obtain ⟨v, m1, l1, p1, m2, l2, e1, e2, r⟩ := lw_B (b_meadow ok T) kc km
  rw [e1, bI_i, e_L_law_216, e2, bI_i, e_L_law_221, show nI i + 4 = nI (i + 4) from nI_add i 4]
  exact ih _ _ _ r
theorem lo_flower (L : Nat) (xs : Nat → Int32) (i : Nat) (hi : i + 4 ≤ L) (hL : L ≤ 256) (ih : ∀ m l p, Rel m l p → Lw (w_L_law_18 L xs (nI (i + 4)) (hG m l p))) {m : hM} {l : Nat → Nat → Int64} {p : Nat → Option Nat} {S : pS} {T : Int64} (ok : Ok S) (kc : Cl m l p S T) (km : Ml m l S T) : Lw (bI (f_X5_flower [.ref 0, .int (xs (Int32.toNatClampNeg (nI i + 1))), .int (xs (Int32.toNatClampNeg (nI i + 2)))] (hG m l p)) (fun x1 g2 => w_L_law_239 L xs (nI i) x1 g2)) := by
  obtain ⟨v, m1, l1, p1, m2, l2, e1, e2, r⟩ := lw_B (b_flower ok T (xs (Int32.toNatClampNeg (nI i + 1))) (xs (Int32.toNatClampNeg (nI i + 2)))) kc km
  rw [e1, bI_i, e_L_law_239, if_pos (lz_1 hi hL), if_pos (lz_2 hi hL), e2, bI_i, e_L_law_254, show nI i + 4 = nI (i + 4) from nI_add i 4]
  exact ih _ _ _ r
theorem lo_link (L : Nat) (xs : Nat → Int32) (i : Nat) (hi : i + 4 ≤ L) (hL : L ≤ 256) (ih : ∀ m l p, Rel m l p → Lw (w_L_law_18 L xs (nI (i + 4)) (hG m l p))) {m : hM} {l : Nat → Nat → Int64} {p : Nat → Option Nat} {S : pS} {T : Int64} (ok : Ok S) (kc : Cl m l p S T) (km : Ml m l S T) : Lw (bI (f_X5_link [.ref 0, .int (xs (Int32.toNatClampNeg (nI i + 1)))] (hG m l p)) (fun x1 g2 => w_L_law_267 L xs (nI i) x1 g2)) := by
  obtain ⟨v, m1, l1, p1, m2, l2, e1, e2, r⟩ := lw_B (b_link ok T (xs (Int32.toNatClampNeg (nI i + 1)))) kc km
  rw [e1, bI_i, e_L_law_267, if_pos (lz_1 hi hL), e2, bI_i, e_L_law_277, show nI i + 4 = nI (i + 4) from nI_add i 4]
  exact ih _ _ _ r
theorem lo_now (L : Nat) (xs : Nat → Int32) (i : Nat) (hi : i + 4 ≤ L) (hL : L ≤ 256) (ih : ∀ m l p, Rel m l p → Lw (w_L_law_18 L xs (nI (i + 4)) (hG m l p))) {m : hM} {l : Nat → Nat → Int64} {p : Nat → Option Nat} {S : pS} {T : Int64} (ok : Ok S) (kc : Cl m l p S T) (km : Ml m l S T) : Lw (bI (f_X5_now [.ref 0, .int (xs (Int32.toNatClampNeg (nI i + 1)))] (hG m l p)) (fun x1 g2 => w_L_law_290 L xs (nI i) x1 g2)) := by
  obtain ⟨v, m1, l1, p1, m2, l2, e1, e2, r⟩ := lw_B (b_now ok T (xs (Int32.toNatClampNeg (nI i + 1)))) kc km
  rw [e1, bI_i, e_L_law_290, if_pos (lz_1 hi hL), e2, bI_i, e_L_law_300, show nI i + 4 = nI (i + 4) from nI_add i 4]
  exact ih _ _ _ r
theorem lo_picks (L : Nat) (xs : Nat → Int32) (i : Nat) (hi : i + 4 ≤ L) (hL : L ≤ 256) (ih : ∀ m l p, Rel m l p → Lw (w_L_law_18 L xs (nI (i + 4)) (hG m l p))) {m : hM} {l : Nat → Nat → Int64} {p : Nat → Option Nat} {S : pS} {T : Int64} (ok : Ok S) (kc : Cl m l p S T) (km : Ml m l S T) : Lw (bI (f_X5_picks [.ref 0, .int (xs (Int32.toNatClampNeg (nI i + 1)))] (hG m l p)) (fun x1 g2 => w_L_law_313 L xs (nI i) x1 g2)) := by
  obtain ⟨v, m1, l1, p1, m2, l2, e1, e2, r⟩ := lw_B (b_picks ok T (xs (Int32.toNatClampNeg (nI i + 1)))) kc km
  rw [e1, bI_i, e_L_law_313, if_pos (lz_1 hi hL), e2, bI_i, e_L_law_323, show nI i + 4 = nI (i + 4) from nI_add i 4]
  exact ih _ _ _ r
theorem lo_slits (L : Nat) (xs : Nat → Int32) (i : Nat) (hi : i + 4 ≤ L) (hL : L ≤ 256) (ih : ∀ m l p, Rel m l p → Lw (w_L_law_18 L xs (nI (i + 4)) (hG m l p))) {m : hM} {l : Nat → Nat → Int64} {p : Nat → Option Nat} {S : pS} {T : Int64} (ok : Ok S) (kc : Cl m l p S T) (km : Ml m l S T) : Lw (bI (f_X5_slits [.ref 0, .int (xs (Int32.toNatClampNeg (nI i + 1))), .int (xs (Int32.toNatClampNeg (nI i + 2))), .int (xs (Int32.toNatClampNeg (nI i + 3)))] (hG m l p)) (fun x1 g2 => w_L_law_346 L xs (nI i) x1 g2)) := by
  obtain ⟨v, m1, l1, p1, m2, l2, e1, e2, r⟩ := lw_B (b_slits ok T (xs (Int32.toNatClampNeg (nI i + 1))) (xs (Int32.toNatClampNeg (nI i + 2))) (xs (Int32.toNatClampNeg (nI i + 3)))) kc km
  rw [e1, bI_i, e_L_law_346, if_pos (lz_1 hi hL), if_pos (lz_2 hi hL), if_pos (lz_3 hi hL), e2, bI_i, e_L_law_366, show nI i + 4 = nI (i + 4) from nI_add i 4]
  exact ih _ _ _ r
theorem lo_threads (L : Nat) (xs : Nat → Int32) (i : Nat) (hi : i + 4 ≤ L) (hL : L ≤ 256) (ih : ∀ m l p, Rel m l p → Lw (w_L_law_18 L xs (nI (i + 4)) (hG m l p))) {m : hM} {l : Nat → Nat → Int64} {p : Nat → Option Nat} {S : pS} {T : Int64} (ok : Ok S) (kc : Cl m l p S T) (km : Ml m l S T) : Lw (bI (f_X5_threads [.ref 0, .int (xs (Int32.toNatClampNeg (nI i + 1)))] (hG m l p)) (fun x1 g2 => w_L_law_379 L xs (nI i) x1 g2)) := by
  obtain ⟨v, m1, l1, p1, m2, l2, e1, e2, r⟩ := lw_B (b_threads ok T (xs (Int32.toNatClampNeg (nI i + 1)))) kc km
  rw [e1, bI_i, e_L_law_379, if_pos (lz_1 hi hL), e2, bI_i, e_L_law_389, show nI i + 4 = nI (i + 4) from nI_add i 4]
  exact ih _ _ _ r
theorem lo_pulls (L : Nat) (xs : Nat → Int32) (i : Nat) (hi : i + 4 ≤ L) (hL : L ≤ 256) (ih : ∀ m l p, Rel m l p → Lw (w_L_law_18 L xs (nI (i + 4)) (hG m l p))) {m : hM} {l : Nat → Nat → Int64} {p : Nat → Option Nat} {S : pS} {T : Int64} (ok : Ok S) (kc : Cl m l p S T) (km : Ml m l S T) : Lw (bI (f_X5_pulls [.ref 0] (hG m l p)) (fun x1 g2 => w_L_law_397 L xs (nI i) x1 g2)) := by
  obtain ⟨v, m1, l1, p1, m2, l2, e1, e2, r⟩ := lw_B (b_pulls ok T) kc km
  rw [e1, bI_i, e_L_law_397, e2, bI_i, e_L_law_402, show nI i + 4 = nI (i + 4) from nI_add i 4]
  exact ih _ _ _ r
theorem lo_minutes (L : Nat) (xs : Nat → Int32) (i : Nat) (hi : i + 4 ≤ L) (hL : L ≤ 256) (ih : ∀ m l p, Rel m l p → Lw (w_L_law_18 L xs (nI (i + 4)) (hG m l p))) {m : hM} {l : Nat → Nat → Int64} {p : Nat → Option Nat} {S : pS} {T : Int64} (ok : Ok S) (kc : Cl m l p S T) (km : Ml m l S T) : Lw (bI (f_X5_minutes [.ref 0, .int (xs (Int32.toNatClampNeg (nI i + 1)))] (hG m l p)) (fun x1 g2 => w_L_law_415 L xs (nI i) x1 g2)) := by
  obtain ⟨v, m1, l1, p1, m2, l2, e1, e2, r⟩ := lw_B (b_minutes ok T (xs (Int32.toNatClampNeg (nI i + 1)))) kc km
  rw [e1, bI_i, e_L_law_415, if_pos (lz_1 hi hL), e2, bI_i, e_L_law_425, show nI i + 4 = nI (i + 4) from nI_add i 4]
  exact ih _ _ _ r
theorem lo_water (L : Nat) (xs : Nat → Int32) (i : Nat) (hi : i + 4 ≤ L) (hL : L ≤ 256) (ih : ∀ m l p, Rel m l p → Lw (w_L_law_18 L xs (nI (i + 4)) (hG m l p))) {m : hM} {l : Nat → Nat → Int64} {p : Nat → Option Nat} {S : pS} {T : Int64} (ok : Ok S) (kc : Cl m l p S T) (km : Ml m l S T) : Lw (bI (f_X5_water [.ref 0, .int (xs (Int32.toNatClampNeg (nI i + 1)))] (hG m l p)) (fun x1 g2 => w_L_law_438 L xs (nI i) x1 g2)) := by
  obtain ⟨v, m1, l1, p1, m2, l2, e1, e2, r⟩ := lw_B (b_water ok T (xs (Int32.toNatClampNeg (nI i + 1)))) kc km
  rw [e1, bI_i, e_L_law_438, if_pos (lz_1 hi hL), e2, bI_i, e_L_law_448, show nI i + 4 = nI (i + 4) from nI_add i 4]
  exact ih _ _ _ r
theorem lo_undo (L : Nat) (xs : Nat → Int32) (i : Nat) (hi : i + 4 ≤ L) (hL : L ≤ 256) (ih : ∀ m l p, Rel m l p → Lw (w_L_law_18 L xs (nI (i + 4)) (hG m l p))) {m : hM} {l : Nat → Nat → Int64} {p : Nat → Option Nat} {S : pS} {T : Int64} (ok : Ok S) (kc : Cl m l p S T) (km : Ml m l S T) : Lw (bI (f_X5_undo [.ref 0] (hG m l p)) (fun x1 g2 => w_L_law_456 L xs (nI i) x1 g2)) := by
  obtain ⟨v, m1, l1, p1, m2, l2, e1, e2, r⟩ := lw_B (b_undo ok T) kc km
  rw [e1, bI_i, e_L_law_456, e2, bI_i, e_L_law_461, show nI i + 4 = nI (i + 4) from nI_add i 4]
  exact ih _ _ _ r
theorem lo_weakest (L : Nat) (xs : Nat → Int32) (i : Nat) (hi : i + 4 ≤ L) (hL : L ≤ 256) (ih : ∀ m l p, Rel m l p → Lw (w_L_law_18 L xs (nI (i + 4)) (hG m l p))) {m : hM} {l : Nat → Nat → Int64} {p : Nat → Option Nat} {S : pS} {T : Int64} (ok : Ok S) (kc : Cl m l p S T) (km : Ml m l S T) : Lw (bI (f_X5_weakest [.ref 0, .int (xs (Int32.toNatClampNeg (nI i + 1)))] (hG m l p)) (fun x1 g2 => w_L_law_474 L xs (nI i) x1 g2)) := by
  obtain ⟨v, m1, l1, p1, m2, l2, e1, e2, r⟩ := lw_B (b_weakest ok T (xs (Int32.toNatClampNeg (nI i + 1)))) kc km
  rw [e1, bI_i, e_L_law_474, if_pos (lz_1 hi hL), e2, bI_i, e_L_law_484, show nI i + 4 = nI (i + 4) from nI_add i 4]
  exact ih _ _ _ r
theorem lo_hung (L : Nat) (xs : Nat → Int32) (i : Nat) (hi : i + 4 ≤ L) (hL : L ≤ 256) (ih : ∀ m l p, Rel m l p → Lw (w_L_law_18 L xs (nI (i + 4)) (hG m l p))) {m : hM} {l : Nat → Nat → Int64} {p : Nat → Option Nat} {S : pS} {T : Int64} (ok : Ok S) (kc : Cl m l p S T) (km : Ml m l S T) : Lw (bI (f_X5_hung [.ref 0] (hG m l p)) (fun x1 g2 => w_L_law_492 L xs (nI i) x1 g2)) := by
  obtain ⟨v, m1, l1, p1, m2, l2, e1, e2, r⟩ := lw_B (b_hung ok T) kc km
  rw [e1, bI_i, e_L_law_492, e2, bI_i, e_L_law_497, show nI i + 4 = nI (i + 4) from nI_add i 4]
  exact ih _ _ _ r
theorem lo_inTime (L : Nat) (xs : Nat → Int32) (i : Nat) (hi : i + 4 ≤ L) (hL : L ≤ 256) (ih : ∀ m l p, Rel m l p → Lw (w_L_law_18 L xs (nI (i + 4)) (hG m l p))) {m : hM} {l : Nat → Nat → Int64} {p : Nat → Option Nat} {S : pS} {T : Int64} (ok : Ok S) (kc : Cl m l p S T) (km : Ml m l S T) : Lw (bI (f_X5_inTime [.ref 0, .int (xs (Int32.toNatClampNeg (nI i + 1)))] (hG m l p)) (fun x1 g2 => w_L_law_510 L xs (nI i) x1 g2)) := by
  obtain ⟨v, m1, l1, p1, m2, l2, e1, e2, r⟩ := lw_B (b_inTime ok T (xs (Int32.toNatClampNeg (nI i + 1)))) kc km
  rw [e1, bI_i, e_L_law_510, if_pos (lz_1 hi hL), e2, bI_i, e_L_law_520, show nI i + 4 = nI (i + 4) from nI_add i 4]
  exact ih _ _ _ r
theorem lo_props (L : Nat) (xs : Nat → Int32) (i : Nat) (hi : i + 4 ≤ L) (hL : L ≤ 256) (ih : ∀ m l p, Rel m l p → Lw (w_L_law_18 L xs (nI (i + 4)) (hG m l p))) {m : hM} {l : Nat → Nat → Int64} {p : Nat → Option Nat} {S : pS} {T : Int64} (ok : Ok S) (kc : Cl m l p S T) (km : Ml m l S T) : Lw (bI (f_X5_props [.ref 0, .int (xs (Int32.toNatClampNeg (nI i + 1)))] (hG m l p)) (fun x1 g2 => w_L_law_533 L xs (nI i) x1 g2)) := by
  obtain ⟨v, m1, l1, p1, m2, l2, e1, e2, r⟩ := lw_B (b_props ok T (xs (Int32.toNatClampNeg (nI i + 1)))) kc km
  rw [e1, bI_i, e_L_law_533, if_pos (lz_1 hi hL), e2, bI_i, e_L_law_543, show nI i + 4 = nI (i + 4) from nI_add i 4]
  exact ih _ _ _ r
theorem lo_ring (L : Nat) (xs : Nat → Int32) (i : Nat) (hi : i + 4 ≤ L) (hL : L ≤ 256) (ih : ∀ m l p, Rel m l p → Lw (w_L_law_18 L xs (nI (i + 4)) (hG m l p))) {m : hM} {l : Nat → Nat → Int64} {p : Nat → Option Nat} {S : pS} {T : Int64} (ok : Ok S) (kc : Cl m l p S T) (km : Ml m l S T) : Lw (bI (f_X5_ring [.ref 0] (hG m l p)) (fun x1 g2 => w_L_law_551 L xs (nI i) x1 g2)) := by
  obtain ⟨v, m1, l1, p1, m2, l2, e1, e2, r⟩ := lw_B (b_ring ok T) kc km
  rw [e1, bI_i, e_L_law_551, e2, bI_i, e_L_law_556, show nI i + 4 = nI (i + 4) from nI_add i 4]
  exact ih _ _ _ r
theorem lo_loves (L : Nat) (xs : Nat → Int32) (i : Nat) (hi : i + 4 ≤ L) (hL : L ≤ 256) (ih : ∀ m l p, Rel m l p → Lw (w_L_law_18 L xs (nI (i + 4)) (hG m l p))) {m : hM} {l : Nat → Nat → Int64} {p : Nat → Option Nat} {S : pS} {T : Int64} (ok : Ok S) (kc : Cl m l p S T) (km : Ml m l S T) : Lw (bI (f_X5_loves [.ref 0] (hG m l p)) (fun x1 g2 => w_L_law_564 L xs (nI i) x1 g2)) := by
  obtain ⟨v, m1, l1, p1, m2, l2, e1, e2, r⟩ := lw_B (b_loves ok T) kc km
  rw [e1, bI_i, e_L_law_564, e2, bI_i, e_L_law_569, show nI i + 4 = nI (i + 4) from nI_add i 4]
  exact ih _ _ _ r
theorem lo_bestSlit (L : Nat) (xs : Nat → Int32) (i : Nat) (hi : i + 4 ≤ L) (hL : L ≤ 256) (ih : ∀ m l p, Rel m l p → Lw (w_L_law_18 L xs (nI (i + 4)) (hG m l p))) {m : hM} {l : Nat → Nat → Int64} {p : Nat → Option Nat} {S : pS} {T : Int64} (ok : Ok S) (kc : Cl m l p S T) (km : Ml m l S T) : Lw (bI (f_X5_bestSlit [.ref 0, .int (xs (Int32.toNatClampNeg (nI i + 1))), .int (xs (Int32.toNatClampNeg (nI i + 2))), .int (xs (Int32.toNatClampNeg (nI i + 3)))] (hG m l p)) (fun x1 g2 => w_L_law_592 L xs (nI i) x1 g2)) := by
  obtain ⟨v, m1, l1, p1, m2, l2, e1, e2, r⟩ := lw_B (b_bestSlit ok T (xs (Int32.toNatClampNeg (nI i + 1))) (xs (Int32.toNatClampNeg (nI i + 2))) (xs (Int32.toNatClampNeg (nI i + 3)))) kc km
  rw [e1, bI_i, e_L_law_592, if_pos (lz_1 hi hL), if_pos (lz_2 hi hL), if_pos (lz_3 hi hL), e2, bI_i, e_L_law_612, show nI i + 4 = nI (i + 4) from nI_add i 4]
  exact ih _ _ _ r
theorem lo_longest (L : Nat) (xs : Nat → Int32) (i : Nat) (hi : i + 4 ≤ L) (hL : L ≤ 256) (ih : ∀ m l p, Rel m l p → Lw (w_L_law_18 L xs (nI (i + 4)) (hG m l p))) {m : hM} {l : Nat → Nat → Int64} {p : Nat → Option Nat} {S : pS} {T : Int64} (ok : Ok S) (kc : Cl m l p S T) (km : Ml m l S T) : Lw (bI (f_X5_longest [.ref 0, .int (xs (Int32.toNatClampNeg (nI i + 1))), .int (xs (Int32.toNatClampNeg (nI i + 2)))] (hG m l p)) (fun x1 g2 => w_L_law_630 L xs (nI i) x1 g2)) := by
  obtain ⟨v, m1, l1, p1, m2, l2, e1, e2, r⟩ := lw_B (b_longest ok T (xs (Int32.toNatClampNeg (nI i + 1))) (xs (Int32.toNatClampNeg (nI i + 2)))) kc km
  rw [e1, bI_i, e_L_law_630, if_pos (lz_1 hi hL), if_pos (lz_2 hi hL), e2, bI_i, e_L_law_645, show nI i + 4 = nI (i + 4) from nI_add i 4]
  exact ih _ _ _ r
theorem lo_fewest (L : Nat) (xs : Nat → Int32) (i : Nat) (hi : i + 4 ≤ L) (hL : L ≤ 256) (ih : ∀ m l p, Rel m l p → Lw (w_L_law_18 L xs (nI (i + 4)) (hG m l p))) {m : hM} {l : Nat → Nat → Int64} {p : Nat → Option Nat} {S : pS} {T : Int64} (ok : Ok S) (kc : Cl m l p S T) (km : Ml m l S T) : Lw (bI (f_X5_fewest [.ref 0, .int (xs (Int32.toNatClampNeg (nI i + 1))), .int (xs (Int32.toNatClampNeg (nI i + 2)))] (hG m l p)) (fun x1 g2 => w_L_law_663 L xs (nI i) x1 g2)) := by
  obtain ⟨v, m1, l1, p1, m2, l2, e1, e2, r⟩ := lw_B (b_fewest ok T (xs (Int32.toNatClampNeg (nI i + 1))) (xs (Int32.toNatClampNeg (nI i + 2)))) kc km
  rw [e1, bI_i, e_L_law_663, if_pos (lz_1 hi hL), if_pos (lz_2 hi hL), e2, bI_i, e_L_law_678, show nI i + 4 = nI (i + 4) from nI_add i 4]
  exact ih _ _ _ r
theorem lo_row (L : Nat) (xs : Nat → Int32) (i : Nat) (hi : i + 4 ≤ L) (hL : L ≤ 256) (ih : ∀ m l p, Rel m l p → Lw (w_L_law_18 L xs (nI (i + 4)) (hG m l p))) {m : hM} {l : Nat → Nat → Int64} {p : Nat → Option Nat} {S : pS} {T : Int64} (ok : Ok S) (kc : Cl m l p S T) (km : Ml m l S T) : Lw (bI (f_X5_row [.ref 0, .int (xs (Int32.toNatClampNeg (nI i + 1))), .int (xs (Int32.toNatClampNeg (nI i + 2))), .int (xs (Int32.toNatClampNeg (nI i + 3)))] (hG m l p)) (fun x1 g2 => w_L_law_701 L xs (nI i) x1 g2)) := by
  obtain ⟨v, m1, l1, p1, m2, l2, e1, e2, r⟩ := lw_B (b_row ok T (xs (Int32.toNatClampNeg (nI i + 1))) (xs (Int32.toNatClampNeg (nI i + 2))) (xs (Int32.toNatClampNeg (nI i + 3)))) kc km
  rw [e1, bI_i, e_L_law_701, if_pos (lz_1 hi hL), if_pos (lz_2 hi hL), if_pos (lz_3 hi hL), e2, bI_i, e_L_law_721, show nI i + 4 = nI (i + 4) from nI_add i 4]
  exact ih _ _ _ r
theorem lo_seen (L : Nat) (xs : Nat → Int32) (i : Nat) (hi : i + 4 ≤ L) (hL : L ≤ 256) (ih : ∀ m l p, Rel m l p → Lw (w_L_law_18 L xs (nI (i + 4)) (hG m l p))) {m : hM} {l : Nat → Nat → Int64} {p : Nat → Option Nat} {S : pS} {T : Int64} (ok : Ok S) (kc : Cl m l p S T) (km : Ml m l S T) : Lw (bI (f_X5_seen [.ref 0, .int (xs (Int32.toNatClampNeg (nI i + 1))), .int (xs (Int32.toNatClampNeg (nI i + 2)))] (hG m l p)) (fun x1 g2 => w_L_law_739 L xs (nI i) x1 g2)) := by
  obtain ⟨v, m1, l1, p1, m2, l2, e1, e2, r⟩ := lw_B (b_seen ok T (xs (Int32.toNatClampNeg (nI i + 1))) (xs (Int32.toNatClampNeg (nI i + 2)))) kc km
  rw [e1, bI_i, e_L_law_739, if_pos (lz_1 hi hL), if_pos (lz_2 hi hL), e2, bI_i, e_L_law_754, show nI i + 4 = nI (i + 4) from nI_add i 4]
  exact ih _ _ _ r
theorem lo_forget (L : Nat) (xs : Nat → Int32) (i : Nat) (hi : i + 4 ≤ L) (hL : L ≤ 256) (ih : ∀ m l p, Rel m l p → Lw (w_L_law_18 L xs (nI (i + 4)) (hG m l p))) {m : hM} {l : Nat → Nat → Int64} {p : Nat → Option Nat} {S : pS} {T : Int64} (ok : Ok S) (kc : Cl m l p S T) (km : Ml m l S T) : Lw (bI (f_X5_forget [.ref 0] (hG m l p)) (fun x1 g2 => w_L_law_762 L xs (nI i) x1 g2)) := by
  obtain ⟨v, m1, l1, p1, m2, l2, e1, e2, r⟩ := lw_B (b_forget ok T) kc km
  rw [e1, bI_i, e_L_law_762, e2, bI_i, e_L_law_767, show nI i + 4 = nI (i + 4) from nI_add i 4]
  exact ih _ _ _ r
theorem lo_wilts (L : Nat) (xs : Nat → Int32) (i : Nat) (hi : i + 4 ≤ L) (hL : L ≤ 256) (ih : ∀ m l p, Rel m l p → Lw (w_L_law_18 L xs (nI (i + 4)) (hG m l p))) {m : hM} {l : Nat → Nat → Int64} {p : Nat → Option Nat} {S : pS} {T : Int64} (ok : Ok S) (kc : Cl m l p S T) (km : Ml m l S T) : Lw (bI (f_X5_wilts [.ref 0] (hG m l p)) (fun x1 g2 => w_L_law_775 L xs (nI i) x1 g2)) := by
  obtain ⟨v, v', m1, l1, p1, m2, l2, e1, e2, r⟩ := lw_W ok kc km
  rw [e1, bI_i, e_L_law_775, e2, bI_i, e_L_law_780, show nI i + 4 = nI (i + 4) from nI_add i 4]
  exact ih _ _ _ r
theorem lo_odds (L : Nat) (xs : Nat → Int32) (i : Nat) (hi : i + 4 ≤ L) (hL : L ≤ 256) (ih : ∀ m l p, Rel m l p → Lw (w_L_law_18 L xs (nI (i + 4)) (hG m l p))) {m : hM} {l : Nat → Nat → Int64} {p : Nat → Option Nat} {S : pS} {T : Int64} (ok : Ok S) (kc : Cl m l p S T) (km : Ml m l S T) : Lw (bI (f_X5_odds [.ref 0, .int (xs (Int32.toNatClampNeg (nI i + 1))), .int (xs (Int32.toNatClampNeg (nI i + 2))), .int (xs (Int32.toNatClampNeg (nI i + 3)))] (hG m l p)) (fun x1 g2 => w_L_law_803 L xs (nI i) x1 g2)) := by
  obtain ⟨v, m1, l1, p1, m2, l2, e1, e2, r⟩ := lw_B (b_odds ok T (xs (Int32.toNatClampNeg (nI i + 1))) (xs (Int32.toNatClampNeg (nI i + 2))) (xs (Int32.toNatClampNeg (nI i + 3)))) kc km
  rw [e1, bI_i, e_L_law_803, if_pos (lz_1 hi hL), if_pos (lz_2 hi hL), if_pos (lz_3 hi hL), e2, bI_i, e_L_law_823, show nI i + 4 = nI (i + 4) from nI_add i 4]
  exact ih _ _ _ r
theorem lo_rate (L : Nat) (xs : Nat → Int32) (i : Nat) (hi : i + 4 ≤ L) (hL : L ≤ 256) (ih : ∀ m l p, Rel m l p → Lw (w_L_law_18 L xs (nI (i + 4)) (hG m l p))) {m : hM} {l : Nat → Nat → Int64} {p : Nat → Option Nat} {S : pS} {T : Int64} (ok : Ok S) (kc : Cl m l p S T) (km : Ml m l S T) : Lw (bI (f_X5_rate [.ref 0, .int (xs (Int32.toNatClampNeg (nI i + 1))), .int (xs (Int32.toNatClampNeg (nI i + 2)))] (hG m l p)) (fun x1 g2 => w_L_law_841 L xs (nI i) x1 g2)) := by
  obtain ⟨v, m1, l1, p1, m2, l2, e1, e2, r⟩ := lw_B (b_rate ok T (xs (Int32.toNatClampNeg (nI i + 1))) (xs (Int32.toNatClampNeg (nI i + 2)))) kc km
  rw [e1, bI_i, e_L_law_841, if_pos (lz_1 hi hL), if_pos (lz_2 hi hL), e2, bI_i, e_L_law_856, show nI i + 4 = nI (i + 4) from nI_add i 4]
  exact ih _ _ _ r
theorem lo_keep (L : Nat) (xs : Nat → Int32) (i : Nat) (hi : i + 4 ≤ L) (hL : L ≤ 256) (ih : ∀ m l p, Rel m l p → Lw (w_L_law_18 L xs (nI (i + 4)) (hG m l p))) {m : hM} {l : Nat → Nat → Int64} {p : Nat → Option Nat} {S : pS} {T : Int64} (ok : Ok S) (kc : Cl m l p S T) (km : Ml m l S T) : Lw (bI (f_X5_keep [.ref 0, .int (xs (Int32.toNatClampNeg (nI i + 1)))] (hG m l p)) (fun x1 g2 => w_L_law_869 L xs (nI i) x1 g2)) := by
  obtain ⟨v, m1, l1, p1, m2, l2, e1, e2, r⟩ := lw_B (b_keep ok T (xs (Int32.toNatClampNeg (nI i + 1)))) kc km
  rw [e1, bI_i, e_L_law_869, if_pos (lz_1 hi hL), e2, bI_i, e_L_law_879, show nI i + 4 = nI (i + 4) from nI_add i 4]
  exact ih _ _ _ r
theorem lo_back (L : Nat) (xs : Nat → Int32) (i : Nat) (hi : i + 4 ≤ L) (hL : L ≤ 256) (ih : ∀ m l p, Rel m l p → Lw (w_L_law_18 L xs (nI (i + 4)) (hG m l p))) {m : hM} {l : Nat → Nat → Int64} {p : Nat → Option Nat} {S : pS} {T : Int64} (ok : Ok S) (kc : Cl m l p S T) (km : Ml m l S T) : Lw (bI (f_X5_back [.ref 0, .int (xs (Int32.toNatClampNeg (nI i + 1)))] (hG m l p)) (fun x1 g2 => w_L_law_892 L xs (nI i) x1 g2)) := by
  obtain ⟨v, m1, l1, p1, m2, l2, e1, e2, r⟩ := lw_B (b_back ok T (xs (Int32.toNatClampNeg (nI i + 1)))) kc km
  rw [e1, bI_i, e_L_law_892, if_pos (lz_1 hi hL), e2, bI_i, e_L_law_902, show nI i + 4 = nI (i + 4) from nI_add i 4]
  exact ih _ _ _ r
theorem lo_count (L : Nat) (xs : Nat → Int32) (i : Nat) (hi : i + 4 ≤ L) (hL : L ≤ 256) (ih : ∀ m l p, Rel m l p → Lw (w_L_law_18 L xs (nI (i + 4)) (hG m l p))) {m : hM} {l : Nat → Nat → Int64} {p : Nat → Option Nat} {S : pS} {T : Int64} (ok : Ok S) (kc : Cl m l p S T) (km : Ml m l S T) : Lw (bI (f_X5_count [.ref 0, .int (xs (Int32.toNatClampNeg (nI i + 1)))] (hG m l p)) (fun x1 g2 => w_L_law_915 L xs (nI i) x1 g2)) := by
  obtain ⟨v, m1, l1, p1, m2, l2, e1, e2, r⟩ := lw_B (b_count ok T (xs (Int32.toNatClampNeg (nI i + 1)))) kc km
  rw [e1, bI_i, e_L_law_915, if_pos (lz_1 hi hL), e2, bI_i, e_L_law_925, show nI i + 4 = nI (i + 4) from nI_add i 4]
  exact ih _ _ _ r
theorem lo_trace (L : Nat) (xs : Nat → Int32) (i : Nat) (hi : i + 4 ≤ L) (hL : L ≤ 256) (ih : ∀ m l p, Rel m l p → Lw (w_L_law_18 L xs (nI (i + 4)) (hG m l p))) {m : hM} {l : Nat → Nat → Int64} {p : Nat → Option Nat} {S : pS} {T : Int64} (ok : Ok S) (kc : Cl m l p S T) (km : Ml m l S T) : Lw (bL (f_X5_trace [.ref 0] (hG m l p)) (fun x1 g2 => w_L_law_933 L xs (nI i) x1 g2)) := by
  obtain ⟨e1, e2, r⟩ := lw_T ok kc km
  rw [e1, bL_l, e_L_law_933, e2, bL_l, e_L_law_937, if_pos (lg_same T), show nI i + 4 = nI (i + 4) from nI_add i 4]
  exact ih _ _ _ r
theorem lw_all (L : Nat) (xs : Nat → Int32) (hL : L ≤ 256) : ∀ d i, L < i + 4 * d + 4 → i ≤ L + 4 → ∀ m l p, Rel m l p → Lw (w_L_law_18 L xs (nI i) (hG m l p)) := by
  intro d
  induction d with
  | zero =>
    intro i h1 h2 m l p _
    rw [e_L_law_18, if_pos ((lw_end hL (by omega)).mpr (by omega))]
    exact ⟨_, _, _, rfl⟩
  | succ d ihd =>
    intro i h1 h2 m l p rel
    by_cases hE : L < i + 4
    · rw [e_L_law_18, if_pos ((lw_end hL (by omega)).mpr hE)]
      exact ⟨_, _, _, rfl⟩
    have hi : i + 4 ≤ L := by omega
    have ih : ∀ m l p, Rel m l p → Lw (w_L_law_18 L xs (nI (i + 4)) (hG m l p)) := fun m l p r => ihd (i + 4) (by omega) (by omega) m l p r
    obtain ⟨S, T, ok, kc, km⟩ := id rel
    rw [e_L_law_18, if_neg (fun c => hE ((lw_end hL (by omega)).mp c)), if_pos (in_nI (by omega) (by omega))]
    by_cases q : (xs (Int32.toNatClampNeg (nI i)) &&& 31) = 0
    · rw [if_pos q, if_pos (lz_1 hi hL)]; exact lo_type L xs i hi hL ih ok kc km
    rw [if_neg q]; clear q
    by_cases q : (xs (Int32.toNatClampNeg (nI i)) &&& 31) = 1
    · rw [if_pos q]; exact lo_clear L xs i hi hL ih ok kc km
    rw [if_neg q]; clear q
    by_cases q : (xs (Int32.toNatClampNeg (nI i)) &&& 31) = 2
    · rw [if_pos q]; exact lo_meadow L xs i hi hL ih ok kc km
    rw [if_neg q]; clear q
    by_cases q : (xs (Int32.toNatClampNeg (nI i)) &&& 31) = 3
    · rw [if_pos q, if_pos (lz_1 hi hL), if_pos (lz_2 hi hL)]; exact lo_flower L xs i hi hL ih ok kc km
    rw [if_neg q]; clear q
    by_cases q : (xs (Int32.toNatClampNeg (nI i)) &&& 31) = 4
    · rw [if_pos q, if_pos (lz_1 hi hL)]; exact lo_link L xs i hi hL ih ok kc km
    rw [if_neg q]; clear q
    by_cases q : (xs (Int32.toNatClampNeg (nI i)) &&& 31) = 5
    · rw [if_pos q, if_pos (lz_1 hi hL)]; exact lo_now L xs i hi hL ih ok kc km
    rw [if_neg q]; clear q
    by_cases q : (xs (Int32.toNatClampNeg (nI i)) &&& 31) = 6
    · rw [if_pos q, if_pos (lz_1 hi hL)]; exact lo_picks L xs i hi hL ih ok kc km
    rw [if_neg q]; clear q
    by_cases q : (xs (Int32.toNatClampNeg (nI i)) &&& 31) = 7
    · rw [if_pos q, if_pos (lz_1 hi hL), if_pos (lz_2 hi hL), if_pos (lz_3 hi hL)]; exact lo_slits L xs i hi hL ih ok kc km
    rw [if_neg q]; clear q
    by_cases q : (xs (Int32.toNatClampNeg (nI i)) &&& 31) = 8
    · rw [if_pos q, if_pos (lz_1 hi hL)]; exact lo_threads L xs i hi hL ih ok kc km
    rw [if_neg q]; clear q
    by_cases q : (xs (Int32.toNatClampNeg (nI i)) &&& 31) = 9
    · rw [if_pos q]; exact lo_pulls L xs i hi hL ih ok kc km
    rw [if_neg q]; clear q
    by_cases q : (xs (Int32.toNatClampNeg (nI i)) &&& 31) = 10
    · rw [if_pos q, if_pos (lz_1 hi hL)]; exact lo_minutes L xs i hi hL ih ok kc km
    rw [if_neg q]; clear q
    by_cases q : (xs (Int32.toNatClampNeg (nI i)) &&& 31) = 11
    · rw [if_pos q, if_pos (lz_1 hi hL)]; exact lo_water L xs i hi hL ih ok kc km
    rw [if_neg q]; clear q
    by_cases q : (xs (Int32.toNatClampNeg (nI i)) &&& 31) = 12
    · rw [if_pos q]; exact lo_undo L xs i hi hL ih ok kc km
    rw [if_neg q]; clear q
    by_cases q : (xs (Int32.toNatClampNeg (nI i)) &&& 31) = 13
    · rw [if_pos q, if_pos (lz_1 hi hL)]; exact lo_weakest L xs i hi hL ih ok kc km
    rw [if_neg q]; clear q
    by_cases q : (xs (Int32.toNatClampNeg (nI i)) &&& 31) = 14
    · rw [if_pos q]; exact lo_hung L xs i hi hL ih ok kc km
    rw [if_neg q]; clear q
    by_cases q : (xs (Int32.toNatClampNeg (nI i)) &&& 31) = 15
    · rw [if_pos q, if_pos (lz_1 hi hL)]; exact lo_inTime L xs i hi hL ih ok kc km
    rw [if_neg q]; clear q
    by_cases q : (xs (Int32.toNatClampNeg (nI i)) &&& 31) = 16
    · rw [if_pos q, if_pos (lz_1 hi hL)]; exact lo_props L xs i hi hL ih ok kc km
    rw [if_neg q]; clear q
    by_cases q : (xs (Int32.toNatClampNeg (nI i)) &&& 31) = 17
    · rw [if_pos q]; exact lo_ring L xs i hi hL ih ok kc km
    rw [if_neg q]; clear q
    by_cases q : (xs (Int32.toNatClampNeg (nI i)) &&& 31) = 18
    · rw [if_pos q]; exact lo_loves L xs i hi hL ih ok kc km
    rw [if_neg q]; clear q
    by_cases q : (xs (Int32.toNatClampNeg (nI i)) &&& 31) = 19
    · rw [if_pos q, if_pos (lz_1 hi hL), if_pos (lz_2 hi hL), if_pos (lz_3 hi hL)]; exact lo_bestSlit L xs i hi hL ih ok kc km
    rw [if_neg q]; clear q
    by_cases q : (xs (Int32.toNatClampNeg (nI i)) &&& 31) = 20
    · rw [if_pos q, if_pos (lz_1 hi hL), if_pos (lz_2 hi hL)]; exact lo_longest L xs i hi hL ih ok kc km
    rw [if_neg q]; clear q
    by_cases q : (xs (Int32.toNatClampNeg (nI i)) &&& 31) = 21
    · rw [if_pos q, if_pos (lz_1 hi hL), if_pos (lz_2 hi hL)]; exact lo_fewest L xs i hi hL ih ok kc km
    rw [if_neg q]; clear q
    by_cases q : (xs (Int32.toNatClampNeg (nI i)) &&& 31) = 22
    · rw [if_pos q, if_pos (lz_1 hi hL), if_pos (lz_2 hi hL), if_pos (lz_3 hi hL)]; exact lo_row L xs i hi hL ih ok kc km
    rw [if_neg q]; clear q
    by_cases q : (xs (Int32.toNatClampNeg (nI i)) &&& 31) = 23
    · rw [if_pos q, if_pos (lz_1 hi hL), if_pos (lz_2 hi hL)]; exact lo_seen L xs i hi hL ih ok kc km
    rw [if_neg q]; clear q
    by_cases q : (xs (Int32.toNatClampNeg (nI i)) &&& 31) = 24
    · rw [if_pos q]; exact lo_forget L xs i hi hL ih ok kc km
    rw [if_neg q]; clear q
    by_cases q : (xs (Int32.toNatClampNeg (nI i)) &&& 31) = 25
    · rw [if_pos q]; exact lo_wilts L xs i hi hL ih ok kc km
    rw [if_neg q]; clear q
    by_cases q : (xs (Int32.toNatClampNeg (nI i)) &&& 31) = 26
    · rw [if_pos q, if_pos (lz_1 hi hL), if_pos (lz_2 hi hL), if_pos (lz_3 hi hL)]; exact lo_odds L xs i hi hL ih ok kc km
    rw [if_neg q]; clear q
    by_cases q : (xs (Int32.toNatClampNeg (nI i)) &&& 31) = 27
    · rw [if_pos q, if_pos (lz_1 hi hL), if_pos (lz_2 hi hL)]; exact lo_rate L xs i hi hL ih ok kc km
    rw [if_neg q]; clear q
    by_cases q : (xs (Int32.toNatClampNeg (nI i)) &&& 31) = 28
    · rw [if_pos q, if_pos (lz_1 hi hL)]; exact lo_keep L xs i hi hL ih ok kc km
    rw [if_neg q]; clear q
    by_cases q : (xs (Int32.toNatClampNeg (nI i)) &&& 31) = 29
    · rw [if_pos q, if_pos (lz_1 hi hL)]; exact lo_back L xs i hi hL ih ok kc km
    rw [if_neg q]; clear q
    by_cases q : (xs (Int32.toNatClampNeg (nI i)) &&& 31) = 30
    · rw [if_pos q, if_pos (lz_1 hi hL)]; exact lo_count L xs i hi hL ih ok kc km
    rw [if_neg q]; clear q
    by_cases q : (xs (Int32.toNatClampNeg (nI i)) &&& 31) = 31
    · rw [if_pos q]; exact lo_trace L xs i hi hL ih ok kc km
    rw [if_neg q]; clear q
    rw [show nI i + 4 = nI (i + 4) from nI_add i 4]; exact ih _ _ _ rel
theorem lw_one (L : Nat) (xs : Nat → Int32) (hL : L ≤ 256) : Lw (w_L_law_18 L xs 0 (hG mI (fun _ _ => 0) pm0)) :=
  lw_all L xs hL 64 0 (by omega) (by omega) mI (fun _ _ => 0) pm0 ⟨S0, 0, Ok_0, Cl_0, Ml_0⟩
