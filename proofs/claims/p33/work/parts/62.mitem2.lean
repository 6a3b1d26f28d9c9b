/-! one item: the model, put together -/
section J2
variable (ml : Nat → Nat → Int64) (pm : Nat → Option Nat) {L : Nat → Nat} {n : Nat}
theorem m_rd54 (a : Int32) {F : Nat} (hF : F < 7) (x : Int32) (m : hM) : w_X6_readsItem_54 a (nI (7 + F)) x (nI (7 + F)) (hG m ml pm) = some (none, hG (hw (hw m 104 (7 + F) x) 101 2 (m 101 2 + 1)) ml pm) := by
  rw [e_X6_readsItem_54, if_pos (in_nI (by omega) (by omega)), cl_nI (by omega)]
theorem fr54 {F : Nat} (x y : Int32) (m : hM) : FrM (hw (hw m 104 (7 + F) x) 101 2 y) m := FrM_t (fr101 _ _ (by omega)) (fr10x _ _ (by omega) (by omega))
theorem m_rd41f (a : Int32) {F q : Nat} (hF : F < 7) (x : Int32) {m : hM} (h : m 99 8 = nI q) (hq : q ≤ 1000) : ∃ m1 : hM, w_X6_readsItem_41 a (nI (7 + F)) x (nI (7 + F)) (hG m ml pm) = some (none, hG m1 ml pm) ∧ FrM m1 m ∧ m1 99 8 = nI q := by
  rw [e_X6_readsItem_41, if_pos (in_nI (by omega) (by omega)), cl_nI (by omega), m_num0 ml pm (m := hw m 103 (7 + F) x) (by rw [hw_oo _ _ _ (by omega)]; exact h) hq, bI_i, m_rd54 ml pm a hF]
  exact ⟨_, rfl, FrM_t (fr54 _ _ _) (fr10x _ _ (by omega) (by omega)), by rw [hw_oo _ _ _ (by omega), hw_oo _ _ _ (by omega), hw_oo _ _ _ (by omega)]; exact h⟩
theorem m_rd28f (a : Int32) {F q : Nat} (hF : F < 7) (x : Int32) {m : hM} (h : m 99 8 = nI q) (hq : q ≤ 1000) : ∃ m1 : hM, w_X6_readsItem_28 a (nI (7 + F)) x (nI (7 + F)) (hG m ml pm) = some (none, hG m1 ml pm) ∧ FrM m1 m ∧ m1 99 8 = nI q := by
  rw [e_X6_readsItem_28, if_pos (in_nI (by omega) (by omega)), cl_nI (by omega), m_num0 ml pm (m := hw m 102 (7 + F) x) (by rw [hw_oo _ _ _ (by omega)]; exact h) hq, bI_i]
  obtain ⟨m1, r1, r2, r3⟩ := m_rd41f ml pm a hF 0 (m := hw m 102 (7 + F) x) (by rw [hw_oo _ _ _ (by omega)]; exact h) hq
  exact ⟨m1, r1, FrM_t r2 (fr10x _ _ (by omega) (by omega)), r3⟩
theorem m_114f (x y : Int32) {q : Nat} {m : hM} (h : m 99 8 = nI q) (hq : q ≤ 1000) : w_X6_meadow_114 x y (hG m ml pm) = w_X6_meadow_40 (x + 1) (hG m ml pm) := by
  have e : ∀ t, w_X6_meadow_128 x y t (hG m ml pm) = w_X6_meadow_40 (x + 1) (hG m ml pm) := fun t => by rw [e_X6_meadow_128, m_takes0 ml pm h hq, bI_i, e_X6_meadow_131]
  rw [e_X6_meadow_114, e, e]
  split <;> rfl
/-- the end of an item -/
theorem m_114 (x y : Int32) {a : Nat} (ha : a ≤ n) {m : hM} (h : m 99 8 = -1) (mt : MT m L n) (ti : TI m L n a) : ∃ m1 : hM, w_X6_meadow_114 x y (hG m ml pm) = w_X6_meadow_40 (x + 1) (hG m1 ml pm) ∧ (tkd L n a = 3 → m1 99 8 = -1 ∧ TI m1 L n (tnx L n a)) ∧ (¬ tkd L n a = 3 → m1 99 8 = nI (tpl L n a)) ∧ m1 99 13 = m 99 13 ∧ FrM m1 m ∧ ∀ c, c ≠ 99 → m1 c = m c := by
  have kl := tkd_le L n a
  rw [e_X6_meadow_114, ti.2.2.1]
  by_cases q : tkd L n a = 3
  · rw [if_pos ((kdM_3 kl).mpr q), e_X6_meadow_128]
    obtain ⟨m1, r1, r2, r3, r4⟩ := m_takesT ml pm ha h mt ti
    rw [r1, bI_i, e_X6_meadow_131]
    exact ⟨m1, rfl, fun _ => ⟨by rw [r3 8 (by omega)]; exact h, r2⟩, fun c => absurd q c, r3 13 (by omega), frT r3 r4, r4⟩
  · rw [if_neg (fun c => q ((kdM_3 kl).mp c)), e_X6_meadow_128, m_takesF ml pm h, bI_i, e_X6_meadow_131, ti.1]
    exact ⟨_, rfl, fun c => absurd c q, fun _ => hw_c _ _ _ _, hw_k _ _ _ (by omega), fr99 _ _ (by omega), fun c hc => hw_oo _ _ _ hc⟩
theorem m_fail (x : Int32) {a : Nat} (ha : a ≤ n) {m : hM} (hn : n ≤ 200) (h : m 99 8 = -1) (ti : TI m L n a) : ∃ m1 : hM, w_X6_meadow_97 x (hG m ml pm) = w_X6_meadow_40 (x + 1) (hG m1 ml pm) ∧ FrM m1 m ∧ m1 99 8 = nI (tpl L n a) := by
  have p0 := tpl_b L ha
  have h8 : hw m 99 8 (nI (tpl L n a)) 99 8 = nI (tpl L n a) := hw_c _ _ _ _
  rw [e_X6_meadow_97, e_X6_meadow_98, m_takesF ml pm h, bI_i, ti.1, e_X6_meadow_101, m_well0 ml pm h8 (by omega), bI_i, e_X6_meadow_106, if_pos rfl, m_114f ml pm _ _ h8 (by omega)]
  exact ⟨_, rfl, fr99 _ _ (by omega), h8⟩
theorem m_item {a F w wt i : Nat} {D : pS} (ha : a ≤ n) (hF : F ≤ 7) (ht : wt ≤ 1) (hk : ¬ tkd L n a = 0) {m : hM} (h : m 99 8 = -1) (mt : MT m L n) (ti : TI m L n a) (md : MD m F w wt D) :
    ∃ m1 : hM, w_X6_meadow_40 (nI i) (hG m ml pm) = w_X6_meadow_40 (nI (i + 1)) (hG m1 ml pm) ∧ FrM m1 m ∧ itm L n a F w wt D (fun q => m1 99 8 = nI q) (fun a1 F1 w1 t1 D1 => m1 99 8 = -1 ∧ TI m1 L n a1 ∧ MD m1 F1 w1 t1 D1) := by
  have hn := mt.1
  have kl := tkd_le L n a
  have b1 := tnx_b L ha
  have b2 := tnx_b L b1.2.1
  have b3 := tnx_b L b2.2.1
  have b4 := tnx_b L b3.2.1
  have b5 := tnx_b L b4.2.1
  have p1 := tpl_b L b1.2.1
  have p2 := tpl_b L b2.2.1
  have p3 := tpl_b L b3.2.1
  have p4 := tpl_b L b4.2.1
  rw [e_X6_meadow_40, m_well1 ml pm h, bI_i, e_X6_meadow_44, if_neg (by decide), ti.2.2.1, if_neg (fun c => hk ((kdM_0 kl).mp c))]
  have fl : (itm L n a F w wt D (fun q => q = tpl L n a) (fun _ _ _ _ _ => False)) → ∃ m1 : hM, w_X6_meadow_97 (nI i) (hG m ml pm) = w_X6_meadow_40 (nI (i + 1)) (hG m1 ml pm) ∧ FrM m1 m ∧ itm L n a F w wt D (fun q => m1 99 8 = nI q) (fun a1 F1 w1 t1 D1 => m1 99 8 = -1 ∧ TI m1 L n a1 ∧ MD m1 F1 w1 t1 D1) := by
    intro hi
    obtain ⟨m1, r1, r2, r3⟩ := m_fail ml pm (nI i) ha hn h ti
    refine ⟨m1, by rw [r1, nI_1], r2, ?_⟩
    exact itm_c (C := fun p : Prop => p) hi hi (fun q e _ => by rw [e]; exact r3) (fun _ _ _ _ _ e _ => e.elim)
  by_cases c1 : tkd L n a = 1
  · rw [if_pos ((kdM_1 kl).mpr (Or.inl c1)), ti.2.2.2.2.1 c1, if_pos (by decide), md.1]
    by_cases c2 : 7 ≤ F
    · rw [if_pos (show (7 : Int32) ≤ nI F from yle (a := 7) c2 (by omega))]
      exact fl (by unfold itm; rw [if_pos c1, if_pos c2])
    · rw [if_neg (show ¬ (7 : Int32) ≤ nI F from fun c => c2 ((le_nI (a := 7) (by omega) (by omega)).mp c)), e_X6_meadow_93, e_X6_meadow_98]
      have hF7 : F < 7 := by omega
      obtain ⟨m2, r1, r2, r3, r4⟩ := m_takesT ml pm ha h mt ti
      have f2 := frT r3 r4
      have w2 : m2 99 8 = -1 := by rw [r3 8 (by omega)]; exact h
      have mt2 := MT_F mt f2
      have d2 : m2 101 2 = nI F := by rw [r4 101 (by omega)]; exact md.1
      rw [r1, bI_i, e_X6_meadow_101, m_well1 ml pm w2, bI_i, e_X6_meadow_106, if_neg (by decide), ti.2.2.2.2.1 c1, e_X6_readsItem, if_pos (show nI 100 = (100 : Int32) from rfl), d2, lit_nI 7, nI_add, lit_nI 1, lit_nI 9]
      cases c3 : nok L n (tnx L n a) 1 9 with
      | false =>
        rw [m_numF ml pm (by omega) (by omega) w2 r2 c3, bI_i]
        obtain ⟨m3, s1, s2, s3⟩ := m_rd28f ml pm (nI 100) hF7 0 (m := hw m2 99 8 (nI (tpl L n (tnx L n a)))) (hw_c _ _ _ _) (by omega)
        rw [s1, bV_v, m_114f ml pm _ _ s3 (by omega), nI_1]
        refine ⟨m3, rfl, FrM_t s2 (FrM_t (fr99 _ _ (by omega)) f2), ?_⟩
        unfold itm; rw [if_pos c1, if_neg c2, c3, if_neg (by decide)]; exact s3
      | true =>
        obtain ⟨m3, s1, s2, s3, s4⟩ := m_numT ml pm b1.2.1 (lo := 1) (hi := 9) (by omega) (by omega) w2 mt2 r2 c3
        have f3 := FrM_t (frT s3 s4) f2
        rw [s1, bI_i, e_X6_readsItem_28, if_pos (in_nI (by omega) (by omega)), cl_nI (by omega), lit_nI 1, lit_nI 30]
        generalize hm4 : hw m3 102 (7 + F) (nI (tvl L n (tnx L n a))) = m4
        have f4 : FrM m4 m := by rw [← hm4]; exact FrM_t (fr10x _ _ (by omega) (by omega)) f3
        have j4 : ∀ j, m4 99 j = m3 99 j := fun j => by rw [← hm4, hw_oo _ _ _ (by omega)]
        have w4 : m4 99 8 = -1 := by rw [j4, s3 8 (by omega)]; exact w2
        have ti4 : TI m4 L n (tnx L n (tnx L n a)) := TI_fr (fun j _ => j4 j) s2
        cases c4 : nok L n (tnx L n (tnx L n a)) 1 30 with
        | false =>
          rw [m_numF ml pm (by omega) (by omega) w4 ti4 c4, bI_i]
          obtain ⟨m5, t1, t2, t3⟩ := m_rd41f ml pm (nI 100) hF7 0 (m := hw m4 99 8 (nI (tpl L n (tnx L n (tnx L n a))))) (hw_c _ _ _ _) (by omega)
          rw [t1, bV_v, m_114f ml pm _ _ t3 (by omega), nI_1]
          refine ⟨m5, rfl, FrM_t t2 (FrM_t (fr99 _ _ (by omega)) f4), ?_⟩
          unfold itm; rw [if_pos c1, if_neg c2, c3, if_pos rfl, c4, if_neg (by decide)]; exact t3
        | true =>
          obtain ⟨m5, t1, t2, t3, t4⟩ := m_numT ml pm b2.2.1 (lo := 1) (hi := 30) (by omega) (by omega) w4 (MT_F mt f4) ti4 c4
          have f5 := FrM_t (frT t3 t4) f4
          rw [t1, bI_i, e_X6_readsItem_41, if_pos (in_nI (by omega) (by omega)), cl_nI (by omega), lit_nI 1, lit_nI 60]
          generalize hm6 : hw m5 103 (7 + F) (nI (tvl L n (tnx L n (tnx L n a)))) = m6
          have f6 : FrM m6 m := by rw [← hm6]; exact FrM_t (fr10x _ _ (by omega) (by omega)) f5
          have j6 : ∀ j, m6 99 j = m5 99 j := fun j => by rw [← hm6, hw_oo _ _ _ (by omega)]
          have w6 : m6 99 8 = -1 := by rw [j6, t3 8 (by omega)]; exact w4
          have ti6 : TI m6 L n (tnx L n (tnx L n (tnx L n a))) := TI_fr (fun j _ => j6 j) t2
          cases c5 : nok L n (tnx L n (tnx L n (tnx L n a))) 1 60 with
          | false =>
            rw [m_numF ml pm (by omega) (by omega) w6 ti6 c5, bI_i, m_rd54 ml pm _ hF7, bV_v]
            have h8 : hw (hw (hw m6 99 8 (nI (tpl L n (tnx L n (tnx L n (tnx L n a)))))) 104 (7 + F) 0) 101 2 (hw m6 99 8 (nI (tpl L n (tnx L n (tnx L n (tnx L n a))))) 101 2 + 1) 99 8 = nI (tpl L n (tnx L n (tnx L n (tnx L n a)))) := by rw [hw_oo _ _ _ (by omega), hw_oo _ _ _ (by omega), hw_c]
            rw [m_114f ml pm _ _ h8 (by omega), nI_1]
            refine ⟨_, rfl, FrM_t (fr54 _ _ _) (FrM_t (fr99 _ _ (by omega)) f6), ?_⟩
            unfold itm; rw [if_pos c1, if_neg c2, c3, if_pos rfl, c4, if_pos rfl, c5, if_neg (by decide)]; exact h8
          | true =>
            obtain ⟨m7, u1, u2, u3, u4⟩ := m_numT ml pm b3.2.1 (lo := 1) (hi := 60) (by omega) (by omega) w6 (MT_F mt f6) ti6 c5
            have f7 := FrM_t (frT u3 u4) f6
            have d7 : m7 101 2 = nI F := by rw [u4 101 (by omega), ← hm6, hw_oo _ _ _ (by omega), t4 101 (by omega), ← hm4, hw_oo _ _ _ (by omega), s4 101 (by omega)]; exact d2
            rw [u1, bI_i, m_rd54 ml pm _ hF7, bV_v, d7, nI_1]
            generalize hm8 : hw (hw m7 104 (7 + F) (nI (tvl L n (tnx L n (tnx L n (tnx L n a)))))) 101 2 (nI (F + 1)) = m8
            have f8 : FrM m8 m := by rw [← hm8]; exact FrM_t (fr54 _ _ _) f7
            have j8 : ∀ j, m8 99 j = m7 99 j := fun j => by rw [← hm8, hw_oo _ _ _ (by omega), hw_oo _ _ _ (by omega)]
            have w8 : m8 99 8 = -1 := by rw [j8, u3 8 (by omega)]; exact w6
            obtain ⟨m9, v1, v2, v3, v4, v5, v6⟩ := m_114 ml pm (nI i) (nI 100) b4.2.1 w8 (MT_F mt f8) (TI_fr (fun j _ => j8 j) u2)
            rw [v1, nI_1]
            refine ⟨m9, rfl, FrM_t v5 f8, ?_⟩
            unfold itm; rw [if_pos c1, if_neg c2, c3, if_pos rfl, c4, if_pos rfl, c5, if_pos rfl]
            by_cases c6 : tkd L n (tnx L n (tnx L n (tnx L n (tnx L n a)))) = 3
            · rw [if_pos c6]
              refine ⟨(v2 c6).1, (v2 c6).2, ?_, ?_, ?_, fun f hf => ?_⟩
              · rw [v6 101 (by omega), ← hm8, hw_c]
              · rw [v6 101 (by omega), ← hm8, hw_k _ _ _ (by omega), hw_oo _ _ _ (by omega), u4 101 (by omega), ← hm6, hw_oo _ _ _ (by omega), t4 101 (by omega), ← hm4, hw_oo _ _ _ (by omega), s4 101 (by omega), r4 101 (by omega)]; exact md.2.1
              · rw [v4, j8, u3 13 (by omega), j6, t3 13 (by omega), j4, s3 13 (by omega), r3 13 (by omega)]; exact md.2.2.1
              · rw [put_2, put_3, put_4]
                have e2 : m9 102 (7 + f) = if f = F then nI (tvl L n (tnx L n a)) else m 102 (7 + f) := by
                  rw [v6 102 (by omega), ← hm8, hw_oo _ _ _ (by omega), hw_oo _ _ _ (by omega), u4 102 (by omega), ← hm6, hw_oo _ _ _ (by omega), t4 102 (by omega), ← hm4]
                  by_cases q : f = F
                  · rw [if_pos q, q, hw_c]
                  · rw [if_neg q, hw_k _ _ _ (by omega), s4 102 (by omega), r4 102 (by omega)]
                have e3 : m9 103 (7 + f) = if f = F then nI (tvl L n (tnx L n (tnx L n a))) else m 103 (7 + f) := by
                  rw [v6 103 (by omega), ← hm8, hw_oo _ _ _ (by omega), hw_oo _ _ _ (by omega), u4 103 (by omega), ← hm6]
                  by_cases q : f = F
                  · rw [if_pos q, q, hw_c]
                  · rw [if_neg q, hw_k _ _ _ (by omega), t4 103 (by omega), ← hm4, hw_oo _ _ _ (by omega), s4 103 (by omega), r4 103 (by omega)]
                have e4 : m9 104 (7 + f) = if f = F then nI (tvl L n (tnx L n (tnx L n (tnx L n a)))) else m 104 (7 + f) := by
                  rw [v6 104 (by omega), ← hm8, hw_oo _ _ _ (by omega)]
                  by_cases q : f = F
                  · rw [if_pos q, q, hw_c]
                  · rw [if_neg q, hw_k _ _ _ (by omega), u4 104 (by omega), ← hm6, hw_oo _ _ _ (by omega), t4 104 (by omega), ← hm4, hw_oo _ _ _ (by omega), s4 104 (by omega), r4 104 (by omega)]
                rw [e2, e3, e4]
                by_cases q : f = F
                · rw [if_pos q, if_pos q, if_pos q, if_pos q, if_pos q, if_pos q]; exact ⟨rfl, rfl, rfl⟩
                · rw [if_neg q, if_neg q, if_neg q, if_neg q, if_neg q, if_neg q]; exact md.2.2.2 f (by omega)
            · rw [if_neg c6]; exact v3 c6
  · by_cases c2 : tkd L n a = 2
    · rw [if_pos ((kdM_1 kl).mpr (Or.inr c2)), ti.2.2.2.2.2 c2, if_neg (by decide), md.2.2.1]
      by_cases c3 : wt = 0
      · rw [if_pos (show nI wt = 0 by rw [c3]; rfl), e_X6_meadow_93, e_X6_meadow_98]
        obtain ⟨m2, r1, r2, r3, r4⟩ := m_takesT ml pm ha h mt ti
        have f2 := frT r3 r4
        have w2 : m2 99 8 = -1 := by rw [r3 8 (by omega)]; exact h
        have mt2 := MT_F mt f2
        rw [r1, bI_i, e_X6_meadow_101, m_well1 ml pm w2, bI_i, e_X6_meadow_106, if_neg (by decide), ti.2.2.2.2.2 c2, e_X6_readsItem, if_neg (by decide), lit_nI 0, lit_nI 9]
        cases c4 : nok L n (tnx L n a) 0 9 with
        | false =>
          rw [m_numF ml pm (by omega) (by omega) w2 r2 c4, bI_i, e_X6_readsItem_80, if_pos (by decide), bV_v]
          have h8 : hw (hw (hw m2 99 8 (nI (tpl L n (tnx L n a)))) 101 (Int32.toNatClampNeg 3) 0) 99 13 1 99 8 = nI (tpl L n (tnx L n a)) := by rw [hw_k _ _ _ (by omega), hw_oo _ _ _ (by omega), hw_c]
          rw [m_114f ml pm _ _ h8 (by omega), nI_1]
          refine ⟨_, rfl, FrM_t (fr99 _ _ (by omega)) (FrM_t (fr101 _ _ (by decide)) (FrM_t (fr99 _ _ (by omega)) f2)), ?_⟩
          unfold itm; rw [if_neg c1, if_pos c2, if_pos c3, c4, if_neg (by decide)]; exact h8
        | true =>
          obtain ⟨m3, s1, s2, s3, s4⟩ := m_numT ml pm b1.2.1 (lo := 0) (hi := 9) (by omega) (by omega) w2 mt2 r2 c4
          have f3 := FrM_t (frT s3 s4) f2
          rw [s1, bI_i, e_X6_readsItem_80, if_pos (by decide), bV_v, show Int32.toNatClampNeg 3 = 3 from rfl]
          generalize hm4 : hw (hw m3 101 3 (nI (tvl L n (tnx L n a)))) 99 13 1 = m4
          have f4 : FrM m4 m := by rw [← hm4]; exact FrM_t (fr99 _ _ (by omega)) (FrM_t (fr101 _ _ (by omega)) f3)
          have j4 : ∀ j, j ≠ 13 → m4 99 j = m3 99 j := fun j hj => by rw [← hm4, hw_k _ _ _ hj, hw_oo _ _ _ (by omega)]
          have w4 : m4 99 8 = -1 := by rw [j4 8 (by omega), s3 8 (by omega)]; exact w2
          obtain ⟨m9, v1, v2, v3, v4, v5, v6⟩ := m_114 ml pm (nI i) (nI 119) b2.2.1 w4 (MT_F mt f4) (TI_fr (fun j hj => j4 j (by omega)) s2)
          rw [v1, nI_1]
          refine ⟨m9, rfl, FrM_t v5 f4, ?_⟩
          unfold itm; rw [if_neg c1, if_pos c2, if_pos c3, c4, if_pos rfl]
          by_cases c6 : tkd L n (tnx L n (tnx L n a)) = 3
          · rw [if_pos c6]
            refine ⟨(v2 c6).1, (v2 c6).2, ?_, ?_, ?_, fun f hf => ?_⟩
            · rw [v6 101 (by omega), ← hm4, hw_oo _ _ _ (by omega), hw_k _ _ _ (by omega), s4 101 (by omega), r4 101 (by omega)]; exact md.1
            · rw [v6 101 (by omega), ← hm4, hw_oo _ _ _ (by omega), hw_c]
            · rw [v4, ← hm4, hw_c]; rfl
            · rw [v6 102 (by omega), v6 103 (by omega), v6 104 (by omega), ← hm4, hw_oo _ _ _ (by omega), hw_oo _ _ _ (by omega), hw_oo _ _ _ (by omega), hw_oo _ _ _ (by omega), hw_oo _ _ _ (by omega), hw_oo _ _ _ (by omega), s4 102 (by omega), s4 103 (by omega), s4 104 (by omega), r4 102 (by omega), r4 103 (by omega), r4 104 (by omega)]
              exact md.2.2.2 f hf
          · rw [if_neg c6]; exact v3 c6
      · rw [if_neg (nz c3 (by omega))]
        exact fl (by unfold itm; rw [if_neg c1, if_pos c2, if_neg c3])
    · rw [if_neg (fun c => by rcases (kdM_1 kl).mp c with c | c; exact c1 c; exact c2 c)]
      exact fl (by unfold itm; rw [if_neg c1, if_neg c2])
end J2
