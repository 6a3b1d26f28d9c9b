/-! the class on a fresh object, the rest -/
theorem hw_id {mi : hM} {c k : Nat} {v : Int32} (h : mi c k = v) : hw mi c k v = mi := by
  funext d l
  simp only [hw]
  split
  · rename_i q; subst q
    split
    · rename_i q; subst q; exact h.symm
    · rfl
  · rfl
theorem mI0 {c : Nat} (h3 : c ≠ 3) (h7 : c ≠ 7) (h101 : c ≠ 101) (k : Nat) : mI c k = 0 := by
  simp only [mI, hw, if_neg h3, if_neg h7, if_neg h101]
theorem tk_mI {q : Nat} (h1 : 16 ≤ q) (h2 : q + 4 < 99) : tkm mI q 11 = mI := by
  funext c k
  unfold tkm
  by_cases hc : c = q
  · subst hc
    rw [if_pos rfl]
    by_cases h : k = 0 ∨ k = 1 ∨ k = 2 ∨ k = 7
    · rw [if_pos h, mI0 (by omega) (by omega) (by omega), mI0 (by omega) (by omega) (by omega)]
    · rw [if_neg h]
  · rw [if_neg hc]
    by_cases h : q < c ∧ c ≤ q + 4
    · rw [if_pos h]
      by_cases h' : k < 7
      · rw [if_pos h', mI0 (by omega) (by omega) (by omega), mI0 (by omega) (by omega) (by omega)]
      · rw [if_neg h']
    · rw [if_neg h]
theorem y_remember : f_X5_remember [.ref 0] hF = some (none, hG (hw mI 0 4 1) zl pm0) := by
  rw [e_X5_remember, if_pos (by decide), e_X5_remember_58, if_pos (by decide), show xm pm0 16 (Int32.toNatClampNeg (mI 0 4)) = some 24 from rfl, Option.bind_some, if_pos ⟨by decide, by decide⟩, x0_take mI zl pm0 ⟨by decide, by decide⟩ isM_11 (by omega), bV_v, tk_mI (by omega) (by omega), e_X5_remember_74]
  rfl
theorem wi_le {a b c : Int32} (h : ¬ wi3 a b c = 0) : b ≤ a ∧ a ≤ c := by
  by_cases q : b ≤ a ∧ a ≤ c
  · exact q
  · exact absurd (wi3_0.mpr q) h
theorem y_minutes (a : Int32) : Fa (f_X5_minutes [.ref 0, .int a] hF) (if wi3 a 1 60 = 0 then -1 else 0 + a) := by
  rw [e_X5_minutes, x5_isWithin, bI_i, e_X5_minutes_7]
  by_cases h : wi3 a 1 60 = 0
  · rw [if_pos h, if_pos h]; exact Fa.now rfl
  · rw [if_neg h, if_neg h]
    have hl : mI 11 0 + a ≤ 600 := by
      have h0 : mI 11 0 + a = a := Int32.zero_add a
      rw [h0]
      exact Int32.le_trans (wi_le h).2 (by decide)
    rw [if_pos hl, y_remember, bV_v, e_X5_minutes_34, if_pos (by decide), e_X5_dryBy, e_X5_dryBy_2, if_pos (show (hw (hw mI 0 4 1) 11 0 (hw mI 0 4 1 11 0 + a)) 7 0 ≤ (0 : Int32) from (by decide : (0 : Int32) ≤ 0)), bV_v, e_X5_minutes_62]
    exact ⟨_, _, _, rfl, (Mf0.hw (by omega)).hw (by omega)⟩
theorem y_water (a : Int32) : Fa (f_X5_water [.ref 0, .int a] hF) (if wi3 a 0 1 = 0 then -1 else 0) := by
  rw [e_X5_water, x5_isWithin, bI_i, e_X5_water_6]
  by_cases h : wi3 a 0 1 = 0
  · rw [if_pos h, if_pos h]; exact Fa.now rfl
  · rw [if_neg h, if_neg h, y_remember, bV_v, e_X5_water_15]
    exact ⟨_, _, _, rfl, (Mf0.hw (by omega)).hw (by omega)⟩
theorem y_keep (a : Int32) : Fa (f_X5_keep [.ref 0, .int a] hF) (if wi3 a 0 1 = 0 then -1 else 0) := by
  rw [e_X5_keep, x5_isWithin, bI_i, e_X5_keep_6]
  by_cases h : wi3 a 0 1 = 0
  · rw [if_pos h, if_pos h]; exact Fa.now rfl
  · rw [if_neg h, if_neg h]
    rcases in_of_wi h with rfl | rfl
    · rw [if_pos (by decide), show xm pm0 17 (Int32.toNatClampNeg 0) = some 74 from rfl, Option.bind_some, if_pos ⟨by decide, by decide⟩, x0_take mI zl pm0 ⟨by decide, by decide⟩ isM_11 (by omega), bV_v, tk_mI (by omega) (by omega), e_X5_keep_24, if_pos (by decide)]
      exact ⟨_, _, _, rfl, Mf0.hw (by omega)⟩
    · rw [if_pos (by decide), show xm pm0 17 (Int32.toNatClampNeg 1) = some 79 from rfl, Option.bind_some, if_pos ⟨by decide, by decide⟩, x0_take mI zl pm0 ⟨by decide, by decide⟩ isM_11 (by omega), bV_v, tk_mI (by omega) (by omega), e_X5_keep_24, if_pos (by decide)]
      exact ⟨_, _, _, rfl, Mf0.hw (by omega)⟩
/-- the model's cells are fresh, and the text's items are 0 -/
def Mg (mi : hM) : Prop := Mf mi ∧ mi 1 3 = 0
theorem Mg_hw {mi : hM} (h : Mg mi) {c k : Nat} {v : Int32} (hc : c < 99) (h1 : c ≠ 1 ∨ k ≠ 3) : Mg (hw mi c k v) := ⟨h.1.hw hc, by
  simp only [hw]
  split
  · rename_i q
    split
    · rename_i q'
      subst q; subst q'; rcases h1 with h1 | h1 <;> exact absurd rfl h1
    · exact h.2
  · exact h.2⟩
theorem y_rest (mi : hM) (h : Mg mi) : ∃ m1, f_X0_restart [.ref 11] (hG mi zl pm0) = some (none, hG m1 zl pm0) ∧ Mg m1 := by
  rw [e_X0_restart]
  obtain ⟨m1, e1, h1⟩ := lpI (w := fun i m => w_X0_restart_22 i (hG m zl pm0)) (I := fun _ m => Mg m) (n := 7) (by
    intro i m hi hI
    refine ⟨hw (hw (hw m 12 i 0) 13 i 0) 14 i 0, ?_, Mg_hw (Mg_hw (Mg_hw hI (by omega) (by omega)) (by omega) (by omega)) (by omega) (by omega)⟩
    have q : ¬ 7 ≤ i := by omega
    show w_X0_restart_22 (nI i) (hG m zl pm0) = _
    rw [e_X0_restart_22]
    simp (disch := omega) only [lit_nI, le_nI, in_iff, q, hi, reduceIte, nI_add, cl_nI]) (i := 0) (by omega) (s := hw (hw (hw (hw mi 11 0 0) 11 1 0) 11 2 0) 11 7 0) (Mg_hw (Mg_hw (Mg_hw (Mg_hw h (by omega) (by omega)) (by omega) (by omega)) (by omega) (by omega)) (by omega) (by omega))
  refine ⟨m1, ?_, h1⟩
  have e1 : w_X0_restart_22 0 (hG (hw (hw (hw (hw mi 11 0 0) 11 1 0) 11 2 0) 11 7 0) zl pm0) = _ := e1
  rw [e1, e_X0_restart_22, if_pos (by decide)]
theorem y_mead50 (mi : hM) (h : Mg mi) : Fa (w_X5_meadow_50 (hG mi zl pm0)) 0 := by
  rw [e_X5_meadow_50]
  obtain ⟨m1, e1, h1⟩ := lpI (w := fun i m => w_X5_meadow_62 i (hG m zl pm0)) (I := fun _ m => Mg m) (n := 2) (by
    intro i m hi hI
    refine ⟨hw m 18 i 0, ?_, Mg_hw hI (by omega) (by omega)⟩
    have q : ¬ 2 ≤ i := by omega
    show w_X5_meadow_62 (nI i) (hG m zl pm0) = _
    rw [e_X5_meadow_62]
    simp (disch := omega) only [lit_nI, le_nI, in_iff, q, hi, reduceIte, nI_add, cl_nI]) (i := 0) (by omega) (s := hw (hw mi 0 4 0) 0 8 0) (Mg_hw (Mg_hw h (by omega) (by omega)) (by omega) (by omega))
  have e1 : w_X5_meadow_62 0 (hG (hw (hw mi 0 4 0) 0 8 0) zl pm0) = _ := e1
  rw [e1, e_X5_meadow_62, if_pos (by decide)]
  exact ⟨m1, _, _, by rw [h1.2], h1.1⟩
theorem y_meadow : Fa (f_X5_meadow [.ref 0] hF) 0 := by
  rw [e_X5_meadow, e_X3_reads, e_X4_restart, bV_v, hw_id (v := (0 : Int32)) rfl, hw_id (v := (2 : Int32)) rfl, e_X3_reads_7, hw_id (v := (0 : Int32)) rfl, hw_id (v := (0 : Int32)) rfl, hw_id (v := (0 : Int32)) rfl, e_X3_reads_24, if_neg (by decide), e_X3_nextToken, e_X3_nextToken_0, if_pos (by decide), e_X3_nextToken_38, if_neg (by decide), bV_v, hw_id (mi := mI) (k := 8) (v := mI 1 5) rfl, hw_id (mi := mI) (v := (0 : Int32)) rfl, e_X3_reads_35, if_pos (by decide), bI_i, e_X5_meadow_7, if_neg (by decide), e_X4_take, bV_v, e_X5_meadow_35]
  obtain ⟨m1, e1, h1⟩ := y_rest (hw (hy (hy (hy (hw (hw mI 7 0 (mI 3 0)) 7 1 (mI 3 1)) 4 8 0 0 7) 5 9 0 0 7) 6 10 0 0 7) 1 1 0) ⟨(((((Mf0.hw (by omega)).hw (by omega)).hy (by omega)).hy (by omega)).hy (by omega)).hw (by omega), rfl⟩
  rw [e1, bV_v]
  exact y_mead50 m1 h1
theorem y_seen (a b : Int32) : Fa (f_X5_seen [.ref 0, .int a, .int b] hF) (if wi3 a 1 99 = 0 then -1 else if wi3 b 0 1 = 0 then -1 else 1) := by
  rw [e_X5_seen, x5_isWithin, bI_i, e_X5_seen_7]
  by_cases h : wi3 a 1 99 = 0
  · rw [if_pos h, if_pos h]; exact Fa.now rfl
  · rw [if_neg h, if_neg h, x5_isWithin, bI_i, e_X5_seen_16]
    by_cases h : wi3 b 0 1 = 0
    · rw [if_pos h, if_pos h]; exact Fa.now rfl
    · rw [if_neg h, if_neg h, if_pos (by decide), if_pos (by decide), show xm pm0 19 (Int32.toNatClampNeg (mI 0 8)) = some 84 from rfl, Option.bind_some, if_pos ⟨by decide, by decide⟩]
      have key : ∀ t : Int32, sx_01 t → Fa (w_X5_seen_58 a b 84 t 84 (hG (hw mI 84 0 a) zl pm0)) 1 := by
        intro t ht
        rw [e_X5_seen_58, if_pos ⟨⟨(by decide : 84 < 113), by decide⟩, ht⟩, e_X0_linkCount, bI_i, e_X5_seen_69, if_pos ⟨(by decide : 84 < 113), by decide⟩, e_X5_seen_75, if_pos ⟨(by decide : 84 < 113), by decide⟩, if_pos (show hw (hw (hw mI 84 0 a) 84 1 t) 84 2 (if 0 < hw (hw mI 84 0 a) 84 1 t 11 7 - 1 then hw (hw mI 84 0 a) 84 1 t 11 7 - 1 else 0) 84 2 ≤ (0 : Int32) from (by decide : (0 : Int32) ≤ 0))]
        exact ⟨_, _, _, rfl, (((Mf0.hw (by omega)).hw (by omega)).hw (by omega)).hw (by omega)⟩
      by_cases hb : b = 1
      · rw [if_pos hb]; exact key 1 (Or.inr rfl)
      · rw [if_neg hb]; exact key 0 (Or.inl rfl)
theorem y_trace : f_X5_trace [.ref 0] hF = some (some (.long 0), hF) := by
  rw [e_X5_trace]; rfl
theorem and_m1 (a : Int32) : a &&& ((0 : Int32) ^^^ (-1)) = a := by
  have e : (0 : Int32) ^^^ (-1) = -1 := by decide
  rw [e]
  exact Int32.and_neg_one
theorem y_begin (a b : Int32) : f_X1_canBegin [.ref 20, .int a, .int b] hF = some (some (.int 0), hF) := by
  rw [e_X1_canBegin, e_X1_isIn]
  by_cases h : ((a >>> (b &&& 31)) &&& 1) = 1
  · rw [if_pos h, bI_i, e_X1_canBegin_5, if_neg (by decide), if_neg]
    rw [show mI 20 2 = 0 from rfl, and_m1]
    intro q
    subst q
    rw [Int32.zero_shiftRight] at h
    exact absurd h (by decide)
  · rw [if_neg h, bI_i, e_X1_canBegin_5, if_pos rfl]
theorem y_prep86 (v : Int32) {i : Nat} (hi : i < 128) : w_X1_prepare_86 v (nI i) 0 hF = w_X1_prepare_75 v (nI (i + 1)) hF := by
  obtain ⟨s', e1, -⟩ := lpI (σ := Unit) (w := fun j _ => w_X1_prepare_86 v (nI i) j hF) (I := fun _ _ => True) (n := 7) (fun j s hj _ => ⟨(), by
    rw [e_X1_prepare_86]
    have q : ¬ 7 ≤ j := by omega
    have q2 : i * 7 + j < 896 := by omega
    simp (disch := omega) only [lit_nI, le_nI, q, reduceIte, y_begin, bI_i, e_X1_prepare_113, nI_add, pk_mul, in_iff, q2]
    rw [hw_id]
    exact mI0 (by omega) (by omega) (by omega) _, trivial⟩) (i := 0) (by omega) (s := ()) trivial
  have e1 : w_X1_prepare_86 v (nI i) 0 hF = w_X1_prepare_86 v (nI i) (nI 7) hF := e1
  rw [e1, e_X1_prepare_86, if_pos (by decide)]
  simp (disch := omega) only [lit_nI, nI_add]
theorem y_prep (v : Int32) : f_X1_prepare [.ref 20, .ref 7, .ref 11, .int v] hF = some (none, hF) := by
  rw [e_X1_prepare, hw_id (by rfl), e_X1_prepare_11, if_pos (by decide)]
  obtain ⟨s', e1, -⟩ := lpI (σ := Unit) (w := fun j _ => w_X1_prepare_75 v j hF) (I := fun _ _ => True) (n := 128) (fun j s hj _ => ⟨(), by
    rw [e_X1_prepare_75]
    have q : ¬ 128 ≤ j := by omega
    simp (disch := omega) only [lit_nI, le_nI, q, reduceIte]
    exact y_prep86 v hj, trivial⟩) (i := 0) (by omega) (s := ()) trivial
  have e1 : w_X1_prepare_75 v 0 hF = w_X1_prepare_75 v (nI 128) hF := e1
  rw [e1, e_X1_prepare_75, if_pos (by decide)]
theorem y_reach {i : Nat} (hi : i < 128) {n : Int32} (hn : (0 : Int32) < n) : f_X1_reaches [.ref 20, .int (nI i), .int n] hF = some (some (.int 0), hF) := by
  rw [e_X1_reaches]
  obtain ⟨s', e1, -⟩ := lpI (σ := Unit) (w := fun j _ => w_X1_reaches_2 (nI i) n j hF) (I := fun _ _ => True) (n := 7) (fun j s hj _ => ⟨(), by
    rw [e_X1_reaches_2]
    have q : ¬ 7 ≤ j := by omega
    have q2 : i * 7 + j < 896 := by omega
    have q3 : mI 22 (i * 7 + j) < n := by rw [mI0 (by omega) (by omega) (by omega)]; exact hn
    simp (disch := omega) only [lit_nI, le_nI, q, reduceIte, nI_add, pk_mul, in_iff, q2, cl_nI, q3], trivial⟩) (i := 0) (by omega) (s := ()) trivial
  have e1 : w_X1_reaches_2 (nI i) n 0 hF = w_X1_reaches_2 (nI i) n (nI 7) hF := e1
  rw [e1, e_X1_reaches_2, if_pos (by decide)]
theorem y_few {n : Int32} (hn : (0 : Int32) < n) : f_X1_fewestFlowers [.ref 20, .int n] hF = some (some (.int (-9)), hF) := by
  rw [e_X1_fewestFlowers]
  obtain ⟨s', e1, -⟩ := lpI (σ := Unit) (w := fun j _ => w_X1_fewestFlowers_5 n (-9) j hF) (I := fun _ _ => True) (n := 128) (fun j s hj _ => ⟨(), by
    rw [e_X1_fewestFlowers_5, if_neg (show ¬ (128 : Int32) ≤ nI j from fun h => absurd ((le_nI (a := 128) (by omega) (by omega)).mp h) (by omega))]
    rw [e_J6_bitCount_0f7a4, bI_i, e_X1_fewestFlowers_16, if_pos rfl, e_X1_fewestFlowers_30, y_reach hj hn, bI_i, e_X1_fewestFlowers_36, if_pos rfl, nI_1], trivial⟩) (i := 1) (by omega) (s := ()) trivial
  have e1 : w_X1_fewestFlowers_5 n (-9) 1 hF = w_X1_fewestFlowers_5 n (-9) (nI 128) hF := e1
  rw [e1, e_X1_fewestFlowers_5, if_pos (by decide)]
theorem wi_pos {a c : Int32} (h : ¬ wi3 a 1 c = 0) : (0 : Int32) < a := Int32.lt_of_lt_of_le (by decide) (wi_le h).1
theorem y_fewest (a b : Int32) : Fa (f_X5_fewest [.ref 0, .int a, .int b] hF) (if wi3 a 1 300 = 0 then -1 else if wi3 b 0 99 = 0 then -1 else -9) := by
  rw [e_X5_fewest, x5_isWithin, bI_i, e_X5_fewest_8]
  by_cases h : wi3 a 1 300 = 0
  · rw [if_pos h, if_pos h]; exact Fa.now rfl
  · rw [if_neg h, if_neg h, x5_isHold, bI_i, e_X5_fewest_15]
    by_cases h' : wi3 b 0 99 = 0
    · rw [if_pos h', if_pos h']; exact Fa.now rfl
    · rw [if_neg h', if_neg h', y_prep, bV_v, e_X5_fewest_36, y_few (wi_pos h), bI_i, e_X5_fewest_44]; exact Fa.now rfl
theorem y_row (a b c : Int32) : Fa (f_X5_row [.ref 0, .int a, .int b, .int c] hF) (if wi3 a 1 300 = 0 then -1 else if wi3 b 0 99 = 0 then -1 else if 0 ≤ c then -9 else -1) := by
  rw [e_X5_row, x5_isWithin, bI_i, e_X5_row_8]
  by_cases h : wi3 a 1 300 = 0
  · rw [if_pos h, if_pos h]; exact Fa.now rfl
  · rw [if_neg h, if_neg h, x5_isHold, bI_i, e_X5_row_15]
    by_cases h' : wi3 b 0 99 = 0
    · rw [if_pos h', if_pos h']; exact Fa.now rfl
    · rw [if_neg h', if_neg h']
      by_cases h2 : 0 ≤ c
      · rw [if_pos h2, if_pos h2, y_prep, bV_v, e_X5_row_40, y_few (wi_pos h), bI_i, e_X5_row_48, if_pos rfl]; exact Fa.now rfl
      · rw [if_neg h2, if_neg h2]; exact Fa.now rfl
