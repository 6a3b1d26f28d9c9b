/-! the model on a fresh object, the rest -/
theorem z_keep {mi : hM} (hm : Mf mi) (ml : Nat → Nat → Int64) (pm : Nat → Option Nat) (a : Int32) : Ga (f_X6_keep [.ref 99, .int a] (hG mi ml pm)) (if wi3 a 0 1 = 0 then -1 else 0) := by
  rw [e_X6_keep, z_ok hm, x6_in, bI_i, e_X6_keep_11]
  by_cases h : wi3 a 0 1 = 0
  · rw [if_pos h, if_pos h]; exact Ga.of _
  · rw [if_neg h, if_neg h]
    obtain ⟨d, hd, rfl⟩ : ∃ d : Nat, d ≤ 1 ∧ a = nI d := by
      rcases in_of_wi h with rfl | rfl
      · exact ⟨0, by omega, rfl⟩
      · exact ⟨1, by omega, rfl⟩
    obtain ⟨m1, e1, h1⟩ := lpI (w := fun i m => w_X6_keep_18 (nI d) i (hG m ml pm)) (I := fun _ m => ∀ k, m 105 k = 0) (n := 32) (by
      intro i m hi hI
      refine ⟨hw m 106 (32 * d + i) (m 105 i), ?_, fun k => by rw [hw_ne _ _ _ (by omega)]; exact hI k⟩
      have q : ¬ 32 ≤ i := by omega
      have q2 : 32 * d + i < 64 := by omega
      show w_X6_keep_18 (nI d) (nI i) (hG m ml pm) = _
      rw [e_X6_keep_18]
      simp (disch := omega) only [lit_nI, le_nI, in_iff, q, q2, hi, reduceIte, nI_add, pk_mul, cl_nI]) (i := 0) (by omega) (s := mi) (z105 hm)
    have e1 : w_X6_keep_18 (nI d) 0 (hG mi ml pm) = _ := e1
    rw [e1, e_X6_keep_18, if_pos (by decide), if_pos (in_nI (by omega) (by omega)), h1]
    exact Ga.of _
/-- what puts() and mostOf() need of a heap: no flower, nothing picked -/
def Mz (m : hM) : Prop := m 101 0 = 0 ∧ m 105 2 = 0
theorem z_puts52 {m : hM} (hz : Mz m) (ml : Nat → Nat → Int64) (pm : Nat → Option Nat) (v : Int32) {i j : Nat} (hi : i < 128) (hj : j < 7) (t : Int32) : ∃ m1, w_X6_puts_52 v (nI i) (nI j) (nI (7 * i + j)) t (hG m ml pm) = w_X6_puts_11 v (nI i) (nI (j + 1)) (hG m1 ml pm) ∧ Mz m1 := by
  have q : sx_in (nI (7 * i + j)) 896 := in_nI (by omega) (by omega)
  have fin : ∀ (u : Int32) (c : Int32), w_X6_puts_82 v (nI i) (nI j) (nI (7 * i + j)) u 0 (hG (hw m 111 (Int32.toNatClampNeg (nI (7 * i + j))) c) ml pm) = w_X6_puts_11 v (nI i) (nI (j + 1)) (hG (hw m 111 (Int32.toNatClampNeg (nI (7 * i + j))) c) ml pm) := by
    intro u c
    rw [e_X6_puts_82, hw_ne _ _ _ (by omega), hz.1, if_pos (by decide), nI_1]
  have mz : ∀ c : Int32, Mz (hw m 111 (Int32.toNatClampNeg (nI (7 * i + j))) c) := fun c => ⟨by rw [hw_ne _ _ _ (by omega)]; exact hz.1, by rw [hw_ne _ _ _ (by omega)]; exact hz.2⟩
  rw [e_X6_puts_52]
  by_cases h : t = 0
  · rw [if_pos h, if_pos q, fin]; exact ⟨_, rfl, mz _⟩
  · rw [if_neg h]
    by_cases h : nI i = (1 : Int32) <<< (nI j &&& 31)
    · rw [if_pos h, if_pos q, fin]; exact ⟨_, rfl, mz _⟩
    · rw [if_neg h, if_pos q, fin]; exact ⟨_, rfl, mz _⟩
theorem z_puts11 {m : hM} (hz : Mz m) (ml : Nat → Nat → Int64) (pm : Nat → Option Nat) (v : Int32) {i j : Nat} (hi : i < 128) (hj : j < 7) : ∃ m1, w_X6_puts_11 v (nI i) (nI j) (hG m ml pm) = w_X6_puts_11 v (nI i) (nI (j + 1)) (hG m1 ml pm) ∧ Mz m1 := by
  have q : ¬ (7 : Int32) ≤ nI j := fun h => absurd ((le_nI (a := 7) (by omega) (by omega)).mp h) (by omega)
  have e : (7 : Int32) * nI i + nI j = nI (7 * i + j) := by
    simp (disch := omega) only [lit_nI, nI_add, pk_mul]
  rw [e_X6_puts_11, if_neg q, e, e_X6_puts_51]
  by_cases h : (nI i &&& (m 105 2 ^^^ (-1))) = 0
  · rw [if_pos h]
    by_cases h : ((nI i >>> (nI j &&& 31)) &&& 1) = 1
    · rw [if_pos h]; exact z_puts52 hz ml pm v hi hj _
    · rw [if_neg h]; exact z_puts52 hz ml pm v hi hj _
  · rw [if_neg h]; exact z_puts52 hz ml pm v hi hj _
theorem z_puts {m : hM} (hz : Mz m) (ml : Nat → Nat → Int64) (pm : Nat → Option Nat) (v : Int32) : ∃ m1, f_X6_puts [.ref 99, .int v] (hG m ml pm) = some (none, hG m1 ml pm) ∧ Mz m1 := by
  rw [e_X6_puts]
  obtain ⟨m1, e1, h1⟩ := lpI (w := fun i m => w_X6_puts_2 v i (hG m ml pm)) (I := fun _ m => Mz m) (n := 128) (by
    intro i m hi hI
    show ∃ s', w_X6_puts_2 v (nI i) (hG m ml pm) = w_X6_puts_2 v (nI (i + 1)) (hG s' ml pm) ∧ Mz s'
    have q : ¬ (128 : Int32) ≤ nI i := fun h => absurd ((le_nI (a := 128) (by omega) (by omega)).mp h) (by omega)
    rw [e_X6_puts_2, if_neg q]
    obtain ⟨m1, e1, h1⟩ := lpI (w := fun j m => w_X6_puts_11 v (nI i) j (hG m ml pm)) (I := fun _ m => Mz m) (n := 7) (fun j m hj hI => z_puts11 hI ml pm v hi hj) (i := 0) (by omega) (s := m) hI
    refine ⟨m1, ?_, h1⟩
    have e1 : w_X6_puts_11 v (nI i) 0 (hG m ml pm) = _ := e1
    rw [e1, e_X6_puts_11, if_pos (by decide), nI_1]) (i := 1) (by omega) (s := m) hz
  refine ⟨m1, ?_, h1⟩
  have e1 : w_X6_puts_2 v 1 (hG m ml pm) = _ := e1
  rw [e1, e_X6_puts_2, if_pos (by decide)]
theorem z_most {m : hM} (hz : Mz m) (ml : Nat → Nat → Int64) (pm : Nat → Option Nat) (v : Int32) : f_X6_mostOf [.ref 99, .int v] (hG m ml pm) = some (some (.int (-9)), hG m ml pm) := by
  rw [e_X6_mostOf]
  obtain ⟨s', e1, -⟩ := lpI (σ := Unit) (w := fun i _ => w_X6_mostOf_5 v (-9) i (hG m ml pm)) (I := fun _ _ => True) (n := 128) (fun i s hi _ => ⟨(), by
    rw [e_X6_mostOf_5, if_neg (show ¬ (128 : Int32) ≤ nI i from fun h => absurd ((le_nI (a := 128) (by omega) (by omega)).mp h) (by omega)), e_X6_mostOf_15, hz.1, if_pos (by decide), nI_1], trivial⟩) (i := 1) (by omega) (s := ()) trivial
  have e1 : w_X6_mostOf_5 v (-9) 1 (hG m ml pm) = w_X6_mostOf_5 v (-9) (nI 128) (hG m ml pm) := e1
  rw [e1, e_X6_mostOf_5, if_pos (by decide)]
theorem z_mz {mi : hM} (hm : Mf mi) : Mz mi := ⟨z101 hm, z105 hm 2⟩
theorem z_long1 {m : hM} (hz : Mz m) (ml : Nat → Nat → Int64) (pm : Nat → Option Nat) (a b : Int32) {c : Int32} (h : ¬ (8 : Int32) ≤ c) : w_X6_longest_41 a b (-9) (-9) c (hG m ml pm) = w_X6_longest_41 a b (-9) (-9) (c + 1) (hG m ml pm) := by
  rw [e_X6_longest_41, if_neg h, z_most hz, bI_i, e_X6_longest_54, if_pos (by decide), e_X6_longest_69, if_pos (by decide)]
theorem z_longest {mi : hM} (hm : Mf mi) (ml : Nat → Nat → Int64) (pm : Nat → Option Nat) (a b : Int32) : Ga (f_X6_longest [.ref 99, .int a, .int b] (hG mi ml pm)) (if wi3 a 0 99 = 0 then -1 else if wi3 b 0 1 = 0 then -1 else -9) := by
  rw [e_X6_longest, z_ok hm, x6_in, bI_i, e_X6_longest_12]
  by_cases h : wi3 a 0 99 = 0
  · rw [if_pos h, if_pos h]; exact Ga.of _
  · rw [if_neg h, if_neg h, x6_in, bI_i, e_X6_longest_21]
    by_cases h : wi3 b 0 1 = 0
    · rw [if_pos h, if_pos h]; exact Ga.of _
    · obtain ⟨m1, e1, h1⟩ := z_puts (z_mz hm) ml pm a
      rw [if_neg h, if_neg h, e1, bV_v, e_X6_longest_31]
      rw [z_long1 h1 ml pm a b (by decide), z_long1 h1 ml pm a b (by decide), z_long1 h1 ml pm a b (by decide), z_long1 h1 ml pm a b (by decide), z_long1 h1 ml pm a b (by decide), z_long1 h1 ml pm a b (by decide), z_long1 h1 ml pm a b (by decide), e_X6_longest_41, if_pos (by decide)]
      by_cases q : b = 0
      · rw [if_pos q]; exact Ga.of _
      · rw [if_neg q]; exact Ga.of _
theorem z_few1 {m : hM} (hz : Mz m) (ml : Nat → Nat → Int64) (pm : Nat → Option Nat) {a : Int32} (b : Int32) (ha : (0 : Int32) < a) {c : Int32} (h : ¬ (8 : Int32) ≤ c) : w_X6_fewestOf_7 a b c (hG m ml pm) = w_X6_fewestOf_7 a b (c + 1) (hG m ml pm) := by
  rw [e_X6_fewestOf_7, if_neg h, z_most hz, bI_i, e_X6_fewestOf_18, if_pos (Int32.lt_trans (by decide) ha)]
theorem z_fewOf {m : hM} (hz : Mz m) (ml : Nat → Nat → Int64) (pm : Nat → Option Nat) {a : Int32} (b : Int32) (ha : (0 : Int32) < a) : ∃ m1, f_X6_fewestOf [.ref 99, .int a, .int b] (hG m ml pm) = some (some (.int (-9)), hG m1 ml pm) := by
  obtain ⟨m1, e1, h1⟩ := z_puts hz ml pm b
  rw [e_X6_fewestOf, e1, bV_v, e_X6_fewestOf_5]
  rw [z_few1 h1 ml pm b ha (by decide), z_few1 h1 ml pm b ha (by decide), z_few1 h1 ml pm b ha (by decide), z_few1 h1 ml pm b ha (by decide), z_few1 h1 ml pm b ha (by decide), z_few1 h1 ml pm b ha (by decide), z_few1 h1 ml pm b ha (by decide), e_X6_fewestOf_7, if_pos (by decide)]
  exact ⟨m1, rfl⟩
theorem z_fewest {mi : hM} (hm : Mf mi) (ml : Nat → Nat → Int64) (pm : Nat → Option Nat) (a b : Int32) : Ga (f_X6_fewest [.ref 99, .int a, .int b] (hG mi ml pm)) (if wi3 a 1 300 = 0 then -1 else if wi3 b 0 99 = 0 then -1 else -9) := by
  rw [e_X6_fewest, z_ok hm, x6_in, bI_i, e_X6_fewest_13]
  by_cases h : wi3 a 1 300 = 0
  · rw [if_pos h, if_pos h]; exact Ga.of _
  · rw [if_neg h, if_neg h, x6_in, bI_i, e_X6_fewest_23]
    by_cases h' : wi3 b 0 99 = 0
    · rw [if_pos h', if_pos h']; exact Ga.of _
    · obtain ⟨m1, e1⟩ := z_fewOf (z_mz hm) ml pm b (wi_pos h)
      rw [if_neg h', if_neg h', e1, bI_i, e_X6_fewest_34]; exact Ga.of _
theorem z_row {mi : hM} (hm : Mf mi) (ml : Nat → Nat → Int64) (pm : Nat → Option Nat) (a b c : Int32) : Ga (f_X6_row [.ref 99, .int a, .int b, .int c] (hG mi ml pm)) (if wi3 a 1 300 = 0 then -1 else if wi3 b 0 99 = 0 then -1 else if 0 ≤ c then -9 else -1) := by
  rw [e_X6_row, z_ok hm, x6_in, bI_i, e_X6_row_13]
  by_cases h : wi3 a 1 300 = 0
  · rw [if_pos h, if_pos h]; exact Ga.of _
  · rw [if_neg h, if_neg h, x6_in, bI_i, e_X6_row_23]
    by_cases h' : wi3 b 0 99 = 0
    · rw [if_pos h', if_pos h']; exact Ga.of _
    · rw [if_neg h', if_neg h']
      by_cases h2 : 0 ≤ c
      · obtain ⟨m1, e1⟩ := z_fewOf (z_mz hm) ml pm b (wi_pos h)
        rw [if_pos h2, if_pos h2, e1, bI_i, e_X6_row_38, if_pos rfl]; exact Ga.of _
      · rw [if_neg h2, if_neg h2]; exact Ga.of _
theorem z_meadow {mi : hM} (hm : Mf mi) (ml : Nat → Nat → Int64) (pm : Nat → Option Nat) : Ga (f_X6_meadow [.ref 99] (hG mi ml pm)) 0 := by
  have hset : ∀ m : hM, ∃ m1, f_X6_settles [.ref 99] (hG m ml pm) = some (none, hG m1 ml pm) := by
    intro m
    rw [e_X6_settles]
    obtain ⟨m1, e1, -⟩ := lpI (w := fun i m => w_X6_settles_26 i (hG m ml pm)) (I := fun _ _ => True) (n := 7) (by
      intro i m hi _
      refine ⟨hw (hw (hw m 102 i (m 102 (7 + i))) 103 i (m 103 (7 + i))) 104 i (m 104 (7 + i)), ?_, trivial⟩
      have q : ¬ 7 ≤ i := by omega
      have q1 : i < 14 := by omega
      have q2 : 7 + i < 14 := by omega
      show w_X6_settles_26 (nI i) (hG m ml pm) = _
      rw [e_X6_settles_26]
      simp (disch := omega) only [lit_nI, le_nI, in_iff, q, q1, q2, reduceIte, nI_add, cl_nI]) (i := 0) (by omega) (s := hw (hw m 101 0 (m 101 2)) 101 1 (m 101 3)) trivial
    have e1 : w_X6_settles_26 0 (hG (hw (hw m 101 0 (m 101 2)) 101 1 (m 101 3)) ml pm) = _ := e1
    rw [e1, e_X6_settles_26, if_pos (by decide)]
    obtain ⟨m2, e2, -⟩ := lpI (w := fun i m => w_X6_settles_85 i (hG m ml pm)) (I := fun _ _ => True) (n := 32) (by
      intro i m hi _
      refine ⟨hw m 105 i 0, ?_, trivial⟩
      have q : ¬ 32 ≤ i := by omega
      show w_X6_settles_85 (nI i) (hG m ml pm) = _
      rw [e_X6_settles_85]
      simp (disch := omega) only [lit_nI, le_nI, in_iff, q, hi, reduceIte, nI_add, cl_nI]) (i := 0) (by omega) (s := m1) trivial
    have e2 : w_X6_settles_85 0 (hG m1 ml pm) = _ := e2
    rw [e2, e_X6_settles_85, if_pos (by decide)]
    exact ⟨_, rfl⟩
  have e : ∀ m : hM, m 99 3 = 0 → m 99 4 = 0 → m 99 8 = -1 → Ga (bV (f_X6_advances [.ref 99] (hG m ml pm)) (fun g2 => w_X6_meadow_40 0 g2)) 0 := by
    intro m h3 h4 h8
    have c3 : hw m 99 6 0 99 3 = 0 := h3
    have c4 : hw m 99 6 0 99 4 = 0 := h4
    have c8 : ¬ (0 : Int32) ≤ hw (hw m 99 6 0) 99 5 0 99 8 := by
      rw [show hw (hw m 99 6 0) 99 5 0 99 8 = m 99 8 from rfl, h8]; decide
    rw [e_X6_advances, e_X6_advances_0, e_X6_letterAt, h3, h4, if_pos (by decide), bI_i, e_X6_advances_8, if_neg (by decide), h4, e_X6_letterAt, c3, if_pos (by decide), bI_i, e_X6_advances_42, if_neg (by decide), bV_v, e_X6_meadow_40, e_X6_isWell, if_neg c8, bI_i, e_X6_meadow_44, if_neg (by decide), if_pos (show hw (hw m 99 6 0) 99 5 0 99 5 = 0 from rfl), e_X6_meadow_138, e_X6_isWell, if_neg c8, bI_i, e_X6_meadow_142, if_neg (by decide)]
    obtain ⟨m1, e1⟩ := hset (hw (hw m 99 6 0) 99 5 0)
    rw [e1, bV_v, e_X6_meadow_157]; exact Ga.of _
  rw [e_X6_meadow]
  exact e _ (z99 hm 3) rfl rfl
theorem z_pow0 (m : hM) (ml : Nat → Nat → Int64) (pm : Nat → Option Nat) (a : Int32) : f_X6_power [.int a, .int 0] (hG m ml pm) = some (some (.int 1), hG m ml pm) := by
  rw [e_X6_power, e_X6_power_4, if_pos (by decide)]
theorem z_odds {mi : hM} (hm : Mf mi) (ml : Nat → Nat → Int64) (pm : Nat → Option Nat) (a b c : Int32) : Ga (f_X6_odds [.ref 99, .int a, .int b, .int c] (hG mi ml pm)) (if wi3 a 0 10 = 0 then -1 else if wi3 b 0 7 = 0 then -1 else if wi3 c 0 1 = 0 then -1 else 1) := by
  rw [e_X6_odds, z_ok hm, x6_in, bI_i, e_X6_odds_12]
  by_cases h : wi3 a 0 10 = 0
  · rw [if_pos h, if_pos h]; exact Ga.of _
  · rw [if_neg h, if_neg h, x6_in, bI_i, e_X6_odds_22]
    by_cases h : wi3 b 0 7 = 0
    · rw [if_pos h, if_pos h]; exact Ga.of _
    · rw [if_neg h, if_neg h, x6_in, bI_i, e_X6_odds_31]
      have hb : ¬ b < 0 := Int32.not_lt.mpr (wi_le h).1
      by_cases h : wi3 c 0 1 = 0
      · rw [if_pos h, if_pos h]; exact Ga.of _
      · rw [if_neg h, if_neg h, z105 hm, if_neg (by decide), e_X6_odds_68, if_neg (by decide), if_neg hb, e_X6_choose, e_X6_choose_4, if_pos (by decide), bI_i, e_X6_odds_90, z_pow0, bI_i, e_X6_odds_96, show (0 : Int32) - 0 = 0 from rfl, z_pow0, bI_i, e_X6_odds_109, e_X6_odds_68, if_pos (by decide), e_X6_odds_119, z_pow0, bI_i, e_X6_odds_126, show (0 : Int32) + 1 * 1 * 1 = 1 by decide, e_X6_gcd, e_X6_gcd_4, if_neg (by decide), if_neg (by decide), e_X6_gcd_4, if_pos (by decide), bI_i, e_X6_odds_135]
        by_cases q : c = 0
        · rw [if_pos q, if_neg (by decide)]; exact Ga.eq (by decide)
        · rw [if_neg q, if_neg (by decide)]; exact Ga.eq (by decide)
/-! odds of the class -/
theorem y_ways (p : Int32) : ∃ m : hM, f_X5_countWays [.ref 0, .int p, .int 0] hF = some (none, hG m zl pm0) ∧ Mf m ∧ m 23 0 = 1 ∧ ∀ k, 1 ≤ k → k ≤ 7 → m 23 k = 0 := by
  rw [e_X5_countWays, e_X5_countWays_2, if_neg (by decide), if_pos rfl, if_pos (by decide)]
  obtain ⟨m1, e1, -, h1, h2, h3⟩ := lpI (w := fun i m => w_X5_countWays_2 p 0 i (hG m zl pm0)) (I := fun i m => 1 ≤ i ∧ Mf m ∧ m 23 0 = 1 ∧ ∀ k, 1 ≤ k → k ≤ 7 → m 23 k = 0) (n := 8) (by
    intro i m hi hI
    have h0 : ¬ i = 0 := by omega
    refine ⟨hw m 23 i 0, ?_, by omega, hI.2.1.hw (by omega), ?_, ?_⟩
    · have q : ¬ 7 < i := by omega
      show w_X5_countWays_2 p 0 (nI i) (hG m zl pm0) = _
      rw [e_X5_countWays_2]
      simp (disch := omega) only [lit_nI, le_nI, lt_nI, eq_nI, in_iff, q, h0, hi, reduceIte, nI_add, cl_nI]
    · simp only [hw, if_true]; rw [if_neg (by omega)]; exact hI.2.2.1
    · intro k h1 h2
      simp only [hw, if_true]
      by_cases q : k = i
      · rw [if_pos q]
      · rw [if_neg q]; exact hI.2.2.2 k h1 h2) (i := 1) (by omega) (s := hw mI 23 0 1) ⟨by omega, Mf0.hw (by omega), rfl, fun k h1 h2 => by
      simp only [hw, if_true]; rw [if_neg (by omega)]; exact mI0 (by omega) (by omega) (by omega) k⟩
  have e1 : w_X5_countWays_2 p 0 (0 + 1) (hG (hw mI 23 0 1) zl pm0) = _ := e1
  refine ⟨m1, ?_, h1, h2, h3⟩
  rw [show Int32.toNatClampNeg 0 = 0 from rfl, e1, e_X5_countWays_2, if_pos (by decide), e_X5_countWays_31, if_pos (by decide)]
theorem nat_of_wi {a : Int32} {n : Nat} (hn : n ≤ 1000) (h : ¬ wi3 a 0 (nI n) = 0) : ∃ d : Nat, d ≤ n ∧ a = nI d := by
  have g := wi_le h
  have g1 := Int32.le_iff_toInt_le.mp g.1
  have g2 := Int32.le_iff_toInt_le.mp g.2
  have e0 : (0 : Int32).toInt = 0 := rfl
  rw [nI_toInt (by omega)] at g2
  refine ⟨a.toInt.toNat, by omega, ?_⟩
  apply Int32.toInt_inj.mp
  rw [nI_toInt (by omega)]
  omega
theorem y_odds (a b c : Int32) : Fa (f_X5_odds [.ref 0, .int a, .int b, .int c] hF) (if wi3 a 0 10 = 0 then -1 else if wi3 b 0 7 = 0 then -1 else if wi3 c 0 1 = 0 then -1 else 1) := by
  rw [e_X5_odds, x5_isWithin, bI_i, e_X5_odds_7]
  by_cases h : wi3 a 0 10 = 0
  · rw [if_pos h, if_pos h]; exact Fa.now rfl
  · rw [if_neg h, if_neg h, x5_isWithin, bI_i, e_X5_odds_17]
    by_cases hb : wi3 b 0 7 = 0
    · rw [if_pos hb, if_pos hb]; exact Fa.now rfl
    · rw [if_neg hb, if_neg hb, x5_isWithin, bI_i, e_X5_odds_26]
      by_cases h : wi3 c 0 1 = 0
      · rw [if_pos h, if_pos h]; exact Fa.now rfl
      · obtain ⟨d, hd, rfl⟩ := nat_of_wi (n := 7) (by omega) hb
        obtain ⟨m, e1, h1, h2, h3⟩ := y_ways a
        rw [if_neg h, if_neg h, y_lc, bI_i, e_X5_odds_38, e1, bV_v, e_X5_odds_47]
        obtain ⟨t, e2, ht⟩ := lpI (w := fun i t => w_X5_odds_53 a (nI d) c 0 t i (hG m zl pm0)) (I := fun i t => t = if i = 0 then (0 : Int32) else 1) (n := d + 1) (by
          intro i t hi ht
          refine ⟨1, ?_, by rw [if_neg (by omega)]⟩
          show w_X5_odds_53 a (nI d) c 0 t (nI i) (hG m zl pm0) = _
          have q1 : ¬ d < i := by omega
          have q2 : i < 8 := by omega
          have q3 : t + m 23 i = 1 := by
            by_cases h0 : i = 0
            · subst h0; rw [ht, if_pos rfl, h2]; decide
            · rw [ht, if_neg h0, h3 i (by omega) (by omega)]; decide
          rw [e_X5_odds_53]
          simp (disch := omega) only [lit_nI, lt_nI, in_iff, q1, q2, reduceIte, nI_add, cl_nI]
          rw [q3]; rfl) (i := 0) (by omega) (s := 0) (by rw [if_pos rfl])
        have e2 : w_X5_odds_53 a (nI d) c 0 0 0 (hG m zl pm0) = _ := e2
        rw [if_neg (by omega)] at ht
        subst ht
        rw [e2, e_X5_odds_53, if_pos ((lt_nI (by omega) (by omega)).mpr (by omega)), e_X5_odds_83, if_pos (by decide), e_X5_odds_106, if_pos (by decide)]
        by_cases q : c = 0
        · rw [if_pos q]; exact ⟨_, _, _, rfl, h1⟩
        · rw [if_neg q]; exact ⟨_, _, _, rfl, h1⟩
