/-! the class on a fresh object: each method's answer -/
def Mf (mi : hM) : Prop := ∀ c, 99 ≤ c → mi c = mI c
theorem Mf0 : Mf mI := fun _ _ => rfl
theorem Mf.hw {mi : hM} (h : Mf mi) {c k : Nat} {v : Int32} (hc : c < 99) : Mf (hw mi c k v) := fun d hd => by rw [hw_ne _ _ _ (by omega)]; exact h d hd
theorem Mf.hy {mi : hM} (h : Mf mi) {s d a b n : Nat} (hc : d < 99) : Mf (hy mi s d a b n) := fun e he => by rw [hy_ne _ _ _ _ _ (by omega)]; exact h e he
theorem Mf.hcel {mi : hM} (h : Mf mi) {c : Nat} {r : Nat → Int32} (hc : c < 99) : Mf (hcel mi c r) := fun d hd => by rw [hcel_ne _ _ (by omega)]; exact h d hd
/-- an answer on a fresh object -/
def Fa (r : Option sx_R) (v : Int32) : Prop := ∃ (m1 : hM) (l1 : Nat → Nat → Int64) (p1 : Nat → Option Nat), r = some (some (.int v), hG m1 l1 p1) ∧ Mf m1
def zl : Nat → Nat → Int64 := fun _ _ => 0
abbrev hF : hp_G := hG mI zl pm0
theorem Fa.now {r : Option sx_R} {v : Int32} (h : r = some (some (.int v), hF)) : Fa r v := ⟨mI, zl, pm0, h, Mf0⟩
theorem y_type (a : Int32) : Fa (f_X5_type [.ref 0, .int a] hF) (if wi3 a 0 255 = 0 then -1 else 1) := by
  rw [e_X5_type, x5_isWithin, bI_i, e_X5_type_8]
  by_cases h : wi3 a 0 255 = 0
  · rw [if_pos h, if_pos h]; exact Fa.now rfl
  · rw [if_neg h, if_neg h, if_pos (by decide), if_pos (by decide)]
    exact ⟨_, _, _, rfl, (Mf0.hw (by omega)).hw (by omega)⟩
theorem y_clear : Fa (f_X5_clear [.ref 0] hF) 0 := by
  rw [e_X5_clear]; exact ⟨_, _, _, rfl, Mf0.hw (by omega)⟩
theorem y_isF (a : Int32) : f_X5_isFlower [.ref 0, .int a] hF = some (some (.int 0), hF) := by
  rw [x5_isFlower, show mI 7 0 - 1 = 0 - 1 from rfl, wi3_none]
theorem y_flower (a b : Int32) : Fa (f_X5_flower [.ref 0, .int a, .int b] hF) (-1) := by
  rw [e_X5_flower, y_isF, bI_i, e_X5_flower_5, if_pos (by decide)]; exact Fa.now rfl
theorem y_link (a : Int32) : Fa (f_X5_link [.ref 0, .int a] hF) (-1) := by
  rw [e_X5_link, x5_isWithin, bI_i, show mI 11 7 - 1 = 0 - 1 from rfl, wi3_none, e_X5_link_14, if_pos (by decide)]; exact Fa.now rfl
theorem y_inches : f_X5_inches [.ref 0] hF = some (some (.int 0), hF) := by
  rw [e_X5_inches, if_pos (by decide)]
theorem y_can : f_X5_canBeThreaded [.ref 0] hF = some (some (.int 0), hF) := by
  rw [e_X5_canBeThreaded, e_X5_canBeThreaded_4, if_pos (by decide)]
theorem y_now (a : Int32) : Fa (f_X5_now [.ref 0, .int a] hF) (if wi3 a 0 6 = 0 then -1 else 0) := by
  rw [e_X5_now]
  by_cases h0 : a = 0
  · subst h0; exact Fa.now rfl
  · rw [if_neg h0]
    by_cases h1 : a = 1
    · subst h1; exact Fa.now rfl
    · rw [if_neg h1]
      by_cases h2 : a = 2
      · subst h2; exact Fa.now rfl
      · rw [if_neg h2]
        by_cases h3 : a = 3
        · subst h3; exact Fa.now rfl
        · rw [if_neg h3]
          by_cases h4 : a = 4
          · subst h4; rw [if_pos (by decide), y_inches, bI_i, e_X5_now_80]; exact Fa.now rfl
          · rw [if_neg h4]
            by_cases h5 : a = 5
            · subst h5; rw [if_pos (by decide), y_can, bI_i, e_X5_now_85]; exact Fa.now rfl
            · rw [if_neg h5]
              by_cases h6 : a = 6
              · subst h6; exact Fa.now rfl
              · rw [if_neg h6, if_pos]
                · exact Fa.now rfl
                · rw [wi3_0]
                  intro h
                  have g1 := Int32.le_iff_toInt_le.mp h.1
                  have g2 := Int32.le_iff_toInt_le.mp h.2
                  have e0 : (0 : Int32).toInt = 0 := rfl
                  have e6 : (6 : Int32).toInt = 6 := rfl
                  have k0 : a.toInt ≠ 0 := fun q => h0 (Int32.toInt_inj.mp q)
                  have k1 : a.toInt ≠ 1 := fun q => h1 (Int32.toInt_inj.mp q)
                  have k2 : a.toInt ≠ 2 := fun q => h2 (Int32.toInt_inj.mp q)
                  have k3 : a.toInt ≠ 3 := fun q => h3 (Int32.toInt_inj.mp q)
                  have k4 : a.toInt ≠ 4 := fun q => h4 (Int32.toInt_inj.mp q)
                  have k5 : a.toInt ≠ 5 := fun q => h5 (Int32.toInt_inj.mp q)
                  have k6 : a.toInt ≠ 6 := fun q => h6 (Int32.toInt_inj.mp q)
                  omega
theorem y_picks (a : Int32) : Fa (f_X5_picks [.ref 0, .int a] hF) (-1) := by
  rw [e_X5_picks, y_isF, bI_i, e_X5_picks_5, if_pos (by decide)]; exact Fa.now rfl
theorem y_slits (a b c : Int32) : Fa (f_X5_slits [.ref 0, .int a, .int b, .int c] hF) (-1) := by
  rw [e_X5_slits, y_isF, bI_i, e_X5_slits_5, if_pos (by decide)]; exact Fa.now rfl
theorem y_threads (a : Int32) : Fa (f_X5_threads [.ref 0, .int a] hF) (-1) := by
  rw [e_X5_threads, y_isF, bI_i, e_X5_threads_5, if_pos (by decide)]; exact Fa.now rfl
theorem y_pulls : Fa (f_X5_pulls [.ref 0] hF) (-2) := by
  rw [e_X5_pulls, if_neg (by decide)]; exact Fa.now rfl
theorem y_undo : Fa (f_X5_undo [.ref 0] hF) (-2) := by
  rw [e_X5_undo, if_neg (by decide)]; exact Fa.now rfl
theorem y_lc : f_X0_linkCount [.ref 11] hF = some (some (.int 0), hF) := by
  rw [e_X0_linkCount, if_neg (by decide)]
theorem y_wl (a : Int32) : f_X5_weakestLink [.ref 0, .int a] hF = some (some (.int (-9)), hF) := by
  rw [e_X5_weakestLink, e_X5_weakestLink_8, y_lc, bI_i, e_X5_weakestLink_17, if_pos (by decide)]
theorem y_weakest (a : Int32) : Fa (f_X5_weakest [.ref 0, .int a] hF) (if wi3 a 0 1 = 0 then -1 else -9) := by
  rw [e_X5_weakest, x5_isWithin, bI_i, e_X5_weakest_6]
  by_cases h : wi3 a 0 1 = 0
  · rw [if_pos h, if_pos h]; exact Fa.now rfl
  · rw [if_neg h, if_neg h, y_wl, bI_i, e_X5_weakest_16, if_pos (by decide)]; exact Fa.now rfl
theorem y_hung : Fa (f_X5_hung [.ref 0] hF) (-9) := by
  rw [e_X5_hung, e_X5_hung_15, if_pos (by decide)]; exact Fa.now rfl
theorem y_inTime0 (a : Int32) : w_X5_inTime_14 a 0 hF = some (some (.int (-9)), hF) := by
  obtain ⟨s', e1, -⟩ := lpI (σ := Unit) (w := fun i _ => w_X5_inTime_14 a i hF) (I := fun _ _ => True) (n := 401) (fun i s hi _ => ⟨(), by
    rw [e_X5_inTime_14, if_neg (show ¬ (400 : Int32) < nI i from fun h => absurd ((lt_nI (a := 400) (by omega) (by omega)).mp h) (by omega)), y_wl, bI_i, e_X5_inTime_26, if_pos (by decide), nI_1], trivial⟩) (i := 0) (by omega) (s := ()) trivial
  have e1 : w_X5_inTime_14 a 0 hF = w_X5_inTime_14 a (nI 401) hF := e1
  rw [e1, e_X5_inTime_14, if_pos (by decide)]
theorem y_inTime (a : Int32) : Fa (f_X5_inTime [.ref 0, .int a] hF) (if wi3 a 1 99 = 0 then -1 else -9) := by
  rw [e_X5_inTime, x5_isWithin, bI_i, e_X5_inTime_7]
  by_cases h : wi3 a 1 99 = 0
  · rw [if_pos h, if_pos h]; exact Fa.now rfl
  · rw [if_neg h, if_neg h, y_inTime0]; exact Fa.now rfl
theorem y_bc0 : f_J6_bitCount_0f7a4 [.int 0] hF = some (some (.int 0), hF) := by
  rw [e_J6_bitCount_0f7a4]; rfl
theorem y_props (a : Int32) : Fa (f_X5_props [.ref 0, .int a] hF) (if wi3 a 0 1 = 0 then -1 else 0) := by
  rw [e_X5_props, x5_isWithin, bI_i, e_X5_props_6]
  by_cases h : wi3 a 0 1 = 0
  · rw [if_pos h, if_pos h]; exact Fa.now rfl
  · rw [if_neg h, if_neg h, e_X5_leastProps, e_X5_leastProps_4, if_pos (by decide), bI_i, e_X5_props_15]
    by_cases h0 : a = 0
    · rw [if_pos h0, y_bc0, bI_i, e_X5_props_24]; exact Fa.now rfl
    · rw [if_neg h0]; exact Fa.now rfl
theorem y_ring : Fa (f_X5_ring [.ref 0] hF) 0 := by
  rw [e_X5_ring, if_neg (by decide)]; exact Fa.now rfl
theorem y_loves : Fa (f_X5_loves [.ref 0] hF) 0 := by
  rw [e_X5_loves, e_X5_loves_4, if_pos (by decide)]; exact Fa.now rfl
theorem y_bestSlit (a b c : Int32) : Fa (f_X5_bestSlit [.ref 0, .int a, .int b, .int c] hF) (-1) := by
  rw [e_X5_bestSlit, y_isF, bI_i, e_X5_bestSlit_5, if_pos (by decide)]; exact Fa.now rfl
theorem y_longest (a b : Int32) : Fa (f_X5_longest [.ref 0, .int a, .int b] hF) (if wi3 a 0 99 = 0 then -1 else if wi3 b 0 1 = 0 then -1 else -9) := by
  rw [e_X5_longest, x5_isHold, bI_i, e_X5_longest_4]
  by_cases h : wi3 a 0 99 = 0
  · rw [if_pos h, if_pos h]; exact Fa.now rfl
  · rw [if_neg h, if_neg h, x5_isWithin, bI_i, e_X5_longest_13]
    by_cases h : wi3 b 0 1 = 0
    · rw [if_pos h, if_pos h]; exact Fa.now rfl
    · rw [if_neg h, if_neg h, if_pos (by decide)]; exact Fa.now rfl
theorem y_forget : Fa (f_X5_forget [.ref 0] hF) 0 := by
  rw [e_X5_forget]; exact ⟨_, _, _, rfl, Mf0.hw (by omega)⟩
theorem y_rate (a b : Int32) : Fa (f_X5_rate [.ref 0, .int a, .int b] hF) (-1000000) := by
  rw [e_X5_rate, y_isF, bI_i, e_X5_rate_5, if_pos (by decide)]; exact Fa.now rfl
theorem in_of_wi {a : Int32} (h : ¬ wi3 a 0 1 = 0) : a = 0 ∨ a = 1 := by
  have h1 : 0 ≤ a ∧ a ≤ 1 := by
    by_cases q : 0 ≤ a ∧ a ≤ 1
    · exact q
    · exact absurd (wi3_0.mpr q) h
  have g1 := Int32.le_iff_toInt_le.mp h1.1
  have g2 := Int32.le_iff_toInt_le.mp h1.2
  have e0 : (0 : Int32).toInt = 0 := rfl
  have e1 : (1 : Int32).toInt = 1 := rfl
  rcases (show a.toInt = 0 ∨ a.toInt = 1 by omega) with q | q
  · exact Or.inl (Int32.toInt_inj.mp q)
  · exact Or.inr (Int32.toInt_inj.mp q)
theorem y_back (a : Int32) : Fa (f_X5_back [.ref 0, .int a] hF) (if wi3 a 0 1 = 0 then -1 else -2) := by
  rw [e_X5_back, x5_isWithin, bI_i, e_X5_back_6]
  by_cases h : wi3 a 0 1 = 0
  · rw [if_pos h, if_pos h]; exact Fa.now rfl
  · rw [if_neg h, if_neg h]
    rcases in_of_wi h with rfl | rfl
    · rw [if_pos (by decide), if_pos (by decide)]; exact Fa.now rfl
    · rw [if_pos (by decide), if_pos (by decide)]; exact Fa.now rfl
theorem y_count (a : Int32) : Fa (f_X5_count [.ref 0, .int a] hF) (if a = 0 then 0 else if a = 1 then 2 else if a = 2 then 0 else if a = 3 then 0 else -1) := by
  rw [e_X5_count]
  split
  · exact Fa.now rfl
  · split
    · exact Fa.now rfl
    · split
      · exact Fa.now rfl
      · split
        · exact Fa.now rfl
        · exact Fa.now rfl
theorem y_agrees (a : Int32) : f_X5_agreesWithAllSeen [.ref 0, .int a] hF = some (some (.int 1), hF) := by
  rw [e_X5_agreesWithAllSeen, e_X5_agreesWithAllSeen_2, if_pos (by decide)]
theorem y_wilts1 (a b : Int32) (h : ¬ (9 : Int32) < b) : w_X5_wilts_4 a b hF = w_X5_wilts_4 (a ||| ((1 : Int32) <<< (b &&& 31))) (b + 1) hF := by
  rw [e_X5_wilts_4, if_neg h, y_agrees, bI_i, e_X5_wilts_15, if_neg (by decide)]
theorem y_wilts : Fa (f_X5_wilts [.ref 0] hF) 1023 := by
  rw [e_X5_wilts]
  rw [y_wilts1 _ _ (by decide), y_wilts1 _ _ (by decide), y_wilts1 _ _ (by decide), y_wilts1 _ _ (by decide), y_wilts1 _ _ (by decide), y_wilts1 _ _ (by decide), y_wilts1 _ _ (by decide), y_wilts1 _ _ (by decide), y_wilts1 _ _ (by decide), y_wilts1 _ _ (by decide)]
  rw [e_X5_wilts_4, if_pos (by decide)]
  exact Fa.now (by
    congr 3)
