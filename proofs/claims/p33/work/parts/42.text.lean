/-! type, clear -/
theorem nat_of {a : Int32} {b n : Nat} (hn : n ≤ 1000) (h : ¬ wi3 a (nI b) (nI n) = 0) (hb : b ≤ 1000) : ∃ d : Nat, b ≤ d ∧ d ≤ n ∧ a = nI d := by
  have g : nI b ≤ a ∧ a ≤ nI n := by
    by_cases q : nI b ≤ a ∧ a ≤ nI n
    · exact q
    · exact absurd (wi3_0.mpr q) h
  have g1 := Int32.le_iff_toInt_le.mp g.1
  have g2 := Int32.le_iff_toInt_le.mp g.2
  rw [nI_toInt (by omega)] at g1 g2
  refine ⟨a.toInt.toNat, by omega, by omega, ?_⟩
  apply Int32.toInt_inj.mp
  rw [nI_toInt (by omega)]
  omega
/-- both sides of a call -/
def Both (f5 f6 : hp_G → Option sx_R) (S : pS) (T : Int64) (v : Int32) (S' : pS) (T' : Int64) : Prop :=
  (∀ (mi : hM) (ml : Nat → Nat → Int64) (pm : Nat → Option Nat), Cl mi ml pm S T → CO mi ml (f5 (hG mi ml pm)) v S' T') ∧
  (∀ (mi : hM) (ml : Nat → Nat → Int64) (pm : Nat → Option Nat), Ml mi ml S T → MO mi ml pm (f6 (hG mi ml pm)) v S' T') ∧ Ok S'
theorem b_count {S : pS} (ok : Ok S) (T : Int64) (a : Int32) : ∃ v S' T', Both (f_X5_count [.ref 0, .int a]) (f_X6_count [.ref 99, .int a]) S T v S' T' :=
  ⟨r_count S a, S, T, fun _ _ _ k => c_count k a, fun _ _ _ k => m_count k a, ok⟩
theorem ClT_fr {m1 mi : hM} {S1 S : pS} (a : m1 1 1 = mi 1 1) (b : m1 2 = mi 2) (c : S1 0 0 = S 0 0) (d : S1 1 = S 1) (k : ClT mi S) : ClT m1 S1 := by
  unfold ClT; rw [a, b, c, d]; exact k
theorem ClD_fr {m1 mi : hM} {S1 S : pS} (h : ∀ c, 7 ≤ c → c ≤ 10 → m1 c = mi c) (a : S1 0 1 = S 0 1) (b : S1 0 2 = S 0 2) (c : S1 2 = S 2) (d : S1 3 = S 3) (e : S1 4 = S 4) (k : ClD mi S) : ClD m1 S1 := by
  unfold ClD; rw [h 7 (by omega) (by omega), h 8 (by omega) (by omega), h 9 (by omega) (by omega), h 10 (by omega) (by omega), a, b, c, d, e]; exact k
theorem ClU_fr {m1 mi : hM} {pm : Nat → Option Nat} {S1 S : pS} (a : m1 0 4 = mi 0 4) (h : ∀ c, 24 ≤ c → c < 74 → m1 c = mi c) (b : S1 0 3 = S 0 3) (c : ∀ i, i < 10 → S1 (10 + i) = S (10 + i)) (k : ClU mi pm S) : ClU m1 pm S1 := by
  obtain ⟨u1, q, u2, u3, u4⟩ := k
  refine ⟨by rw [a, b]; exact u1, q, u2, u3, fun i hi h10 => ?_⟩
  obtain ⟨j, hj, e⟩ := (u2 i h10).2
  rw [c i h10]
  exact Cm_fr (fun c h1 h2 => h c (by omega) (by omega)) (u4 i (by rw [← b]; exact hi) h10)
theorem ClK_fr {m1 mi : hM} {S1 S : pS} (a : m1 18 = mi 18) (h : ∀ c, 74 ≤ c → c < 84 → m1 c = mi c) (b : S1 6 = S 6) (c : ∀ i, i < 2 → S1 (20 + i) = S (20 + i)) (k : ClK mi S) : ClK m1 S1 := by
  intro i hi
  rw [a, b, c i hi]
  exact ⟨(k i hi).1, fun e => Cm_fr (fun c h1 h2 => h c (by omega) (by omega)) ((k i hi).2 e)⟩
theorem ClE_fr {m1 mi : hM} {S1 S : pS} (a : m1 0 8 = mi 0 8) (h : ∀ c, 84 ≤ c → c < 99 → m1 c = mi c) (b : S1 0 4 = S 0 4) (k : ClE mi S) : ClE m1 S1 := by
  refine ⟨by rw [a, b]; exact k.1, fun i hi => ?_⟩
  rw [h (84 + 3 * i) (by omega) (by omega)]
  exact k.2 i hi
theorem MlT_fr {m1 mi : hM} {S1 S : pS} (a : m1 99 3 = mi 99 3) (b : m1 100 = mi 100) (c : S1 0 0 = S 0 0) (d : S1 1 = S 1) (k : mi 99 3 = nI (S 0 0) ∧ ∀ k, k < S 0 0 → mi 100 k = nI (S 1 k)) : m1 99 3 = nI (S1 0 0) ∧ ∀ k, k < S1 0 0 → m1 100 k = nI (S1 1 k) := by
  rw [a, b, c, d]; exact k
theorem MlD_fr {m1 mi : hM} {S1 S : pS} (h0 : m1 101 0 = mi 101 0) (h1 : m1 101 1 = mi 101 1) (h : ∀ c, 102 ≤ c → c ≤ 104 → m1 c = mi c) (a : S1 0 1 = S 0 1) (b : S1 0 2 = S 0 2) (c : S1 2 = S 2) (d : S1 3 = S 3) (e : S1 4 = S 4)
    (k : mi 101 0 = nI (S 0 1) ∧ mi 101 1 = nI (S 0 2) ∧ ∀ f, f < S 0 1 → mi 102 f = nI (S 2 f) ∧ mi 103 f = nI (S 3 f) ∧ mi 104 f = nI (S 4 f)) : m1 101 0 = nI (S1 0 1) ∧ m1 101 1 = nI (S1 0 2) ∧ ∀ f, f < S1 0 1 → m1 102 f = nI (S1 2 f) ∧ m1 103 f = nI (S1 3 f) ∧ m1 104 f = nI (S1 4 f) := by
  rw [h0, h1, h 102 (by omega) (by omega), h 103 (by omega) (by omega), h 104 (by omega) (by omega), a, b, c, d, e]; exact k
theorem MlU_fr {m1 mi : hM} {S1 S : pS} (a : m1 99 18 = mi 99 18) (h : m1 108 = mi 108) (b : S1 0 3 = S 0 3) (c : ∀ i, i < 10 → S1 (10 + i) = S (10 + i)) (ho : S 0 3 ≤ 10) (k : mi 99 18 = nI (S 0 3) ∧ ∀ i, i < S 0 3 → Mm mi 108 (32 * i) (S (10 + i))) : m1 99 18 = nI (S1 0 3) ∧ ∀ i, i < S1 0 3 → Mm m1 108 (32 * i) (S1 (10 + i)) := by
  refine ⟨by rw [a, b]; exact k.1, fun i hi => ?_⟩
  rw [b] at hi
  unfold Mm
  rw [h, c i (by omega)]
  exact k.2 i hi
theorem MlK_fr {m1 mi : hM} {S1 S : pS} (a : m1 107 = mi 107) (h : m1 106 = mi 106) (b : S1 6 = S 6) (c : ∀ i, i < 2 → S1 (20 + i) = S (20 + i)) (k : ∀ i, i < 2 → mi 107 i = nI (S 6 i) ∧ (S 6 i = 1 → Mm mi 106 (32 * i) (S (20 + i)))) : ∀ i, i < 2 → m1 107 i = nI (S1 6 i) ∧ (S1 6 i = 1 → Mm m1 106 (32 * i) (S1 (20 + i))) := by
  intro i hi
  unfold Mm
  rw [a, h, b, c i hi]
  exact k i hi
theorem sset_o (S : pS) {c c' : Nat} (k v : Nat) (h : c' ≠ c) : sset S c k v c' = S c' := by funext j; simp [sset, h]
theorem sset_c (S : pS) (c k v : Nat) : sset S c k v c k = v := by simp [sset]
theorem sset_k (S : pS) (c : Nat) {k k' : Nat} (v : Nat) (h : k' ≠ k) : sset S c k v c k' = S c k' := by simp [sset, h]
theorem Ok_T {S1 S : pS} (a : S1 0 0 ≤ 200) (b : ∀ k, k < S1 0 0 → S1 1 k ≤ 255) (c : ∀ k, 1 ≤ k → S1 0 k = S 0 k) (d : ∀ r, 2 ≤ r → S1 r = S r) (ok : Ok S) : Ok S1 := by
  obtain ⟨-, h⟩ := ok
  refine ⟨⟨a, b⟩, ?_⟩
  rw [c 1 (by omega), c 2 (by omega), c 3 (by omega), c 4 (by omega), d 2 (by omega), d 3 (by omega), d 4 (by omega), d 5 (by omega), d 6 (by omega)]
  obtain ⟨h1, h2, ⟨h3, h3'⟩, h4, h5⟩ := h
  exact ⟨h1, h2, ⟨h3, fun i hi => by rw [d (10 + i) (by omega)]; exact h3' i hi⟩, fun i hi => by rw [d (20 + i) (by omega)]; exact h4 i hi, h5⟩
theorem b_clear {S : pS} (ok : Ok S) (T : Int64) : ∃ v S' T', Both (f_X5_clear [.ref 0]) (f_X6_clear [.ref 99]) S T v S' T' := by
  refine ⟨nI (S 0 0), sset S 0 0 0, T, ?_, ?_, ?_⟩
  · intro mi ml pm k
    rw [e_X5_clear, k.1.1]
    refine ⟨_, _, _, rfl, ?_, fun c hc => hw_oo _ _ _ (by omega), rfl⟩
    obtain ⟨⟨t1, t2⟩, d, n, u, kk, e, tr⟩ := k
    refine ⟨⟨by rw [hw_c, sset_c]; rfl, fun k hk => absurd hk (by rw [sset_c]; omega)⟩, ClD_fr (fun c _ _ => hw_oo _ _ _ (by omega)) (sset_k _ _ _ (by omega)) (sset_k _ _ _ (by omega)) (sset_o _ _ _ (by omega)) (sset_o _ _ _ (by omega)) (sset_o _ _ _ (by omega)) d, ?_, ClU_fr (hw_o _ _ _ _ (by omega)) (fun c _ _ => hw_oo _ _ _ (by omega)) (sset_k _ _ _ (by omega)) (fun i _ => sset_o _ _ _ (by omega)) u, ClK_fr (hw_oo _ _ _ (by omega)) (fun c _ _ => hw_oo _ _ _ (by omega)) (sset_o _ _ _ (by omega)) (fun i _ => sset_o _ _ _ (by omega)) kk, ClE_fr (hw_o _ _ _ _ (by omega)) (fun c _ _ => hw_oo _ _ _ (by omega)) (sset_k _ _ _ (by omega)) e, tr⟩
    rw [sset_o _ _ _ (by omega)]
    exact Cm_fr (fun c _ _ => hw_oo _ _ _ (by omega)) n
  · intro mi ml pm k
    rw [e_X6_clear, k.1.1]
    refine ⟨_, _, rfl, ?_, fun c hc => by rw [hw_oo _ _ _ (by omega), hw_oo _ _ _ (by omega)], rfl⟩
    obtain ⟨⟨t1, t2⟩, d, n, u, kk, e, tr⟩ := Ml_th (0 : Int32) k
    refine ⟨⟨by rw [hw_c, sset_c]; rfl, fun k hk => absurd hk (by rw [sset_c]; omega)⟩, MlD_fr (hw_o _ _ _ _ (by omega)) (hw_o _ _ _ _ (by omega)) (fun c _ _ => hw_oo _ _ _ (by omega)) (sset_k _ _ _ (by omega)) (sset_k _ _ _ (by omega)) (sset_o _ _ _ (by omega)) (sset_o _ _ _ (by omega)) (sset_o _ _ _ (by omega)) d, ?_, MlU_fr (hw_k _ _ _ (by omega)) (hw_oo _ _ _ (by omega)) (sset_k _ _ _ (by omega)) (fun i _ => sset_o _ _ _ (by omega)) ok.2.2.2.1.1 u, MlK_fr (hw_oo _ _ _ (by omega)) (hw_oo _ _ _ (by omega)) (sset_o _ _ _ (by omega)) (fun i _ => sset_o _ _ _ (by omega)) kk, by rw [hw_k _ _ _ (by omega), sset_k _ _ _ (by omega)]; exact e, tr⟩
    unfold Mm
    rw [hw_oo _ _ _ (by omega), sset_o _ _ _ (by omega)]
    exact n
  · refine Ok_T (by rw [sset_c]; omega) (fun k hk => absurd hk (by rw [sset_c]; omega)) (fun k hk => sset_k _ _ _ (by omega)) (fun r hr => sset_o _ _ _ (by omega)) ok
theorem b_type {S : pS} (ok : Ok S) (T : Int64) (a : Int32) : ∃ v S' T', Both (f_X5_type [.ref 0, .int a]) (f_X6_type [.ref 99, .int a]) S T v S' T' := by
  by_cases h : wi3 a 0 255 = 0
  · refine ⟨-1, S, T, fun mi ml pm k => ?_, fun mi ml pm k => ?_, ok⟩
    · rw [e_X5_type, x5_isWithin, bI_i, e_X5_type_8, if_pos h]; exact CO_q k rfl
    · rw [e_X6_type, x6_in, bI_i, e_X6_type_13, if_pos h]; exact MO_q k rfl
  · obtain ⟨d, -, hd, rfl⟩ := nat_of (b := 0) (n := 255) (by omega) h (by omega)
    have hn := ok.1.1
    by_cases h2 : S 0 0 = 200
    · refine ⟨-3, S, T, fun mi ml pm k => ?_, fun mi ml pm k => ?_, ok⟩
      · rw [e_X5_type, x5_isWithin, bI_i, e_X5_type_8, if_neg h, k.1.1, h2, if_neg (by decide)]; exact CO_q k rfl
      · rw [e_X6_type, x6_in, bI_i, e_X6_type_13, if_neg h, (Ml_th (0 : Int32) k).1.1, h2, if_pos (by decide)]; exact MO_q k rfl
    · have q1 : S 0 0 < 200 := by omega
      have S1o : ∀ c, 2 ≤ c → sset (sset S 1 (S 0 0) d) 0 0 (S 0 0 + 1) c = S c := fun c hc => by rw [sset_o _ _ _ (by omega), sset_o _ _ _ (by omega)]
      have S0 : ∀ k, 1 ≤ k → sset (sset S 1 (S 0 0) d) 0 0 (S 0 0 + 1) 0 k = S 0 k := fun k hk => by rw [sset_k _ _ _ (by omega), sset_o _ _ _ (by omega)]
      refine ⟨nI (S 0 0 + 1), sset (sset S 1 (S 0 0) d) 0 0 (S 0 0 + 1), T, fun mi ml pm k => ?_, fun mi ml pm k => ?_, ?_⟩
      · rw [e_X5_type, x5_isWithin, bI_i, e_X5_type_8, if_neg h, k.1.1]
        simp (disch := omega) only [lit_nI, lt_nI, in_iff, q1, reduceIte, nI_add, cl_nI]
        obtain ⟨⟨t1, t2⟩, dd, n, u, kk, e, tr⟩ := k
        have m1o : ∀ c, c ≠ 1 → c ≠ 2 → hw (hw mi 2 (S 0 0) (nI d)) 1 1 (nI (S 0 0 + 1)) c = mi c := fun c h1 h2 => by rw [hw_oo _ _ _ h1, hw_oo _ _ _ h2]
        refine ⟨_, _, _, rfl, ⟨⟨by rw [hw_c, sset_c], fun k hk => ?_⟩, ClD_fr (fun c _ _ => m1o c (by omega) (by omega)) (S0 1 (by omega)) (S0 2 (by omega)) (S1o 2 (by omega)) (S1o 3 (by omega)) (S1o 4 (by omega)) dd, ?_, ClU_fr (by rw [m1o 0 (by omega) (by omega)]) (fun c _ _ => m1o c (by omega) (by omega)) (S0 3 (by omega)) (fun i _ => S1o _ (by omega)) u, ClK_fr (m1o 18 (by omega) (by omega)) (fun c _ _ => m1o c (by omega) (by omega)) (S1o 6 (by omega)) (fun i _ => S1o _ (by omega)) kk, ClE_fr (by rw [m1o 0 (by omega) (by omega)]) (fun c _ _ => m1o c (by omega) (by omega)) (S0 4 (by omega)) e, tr⟩, fun c hc => m1o c (by omega) (by omega), rfl⟩
        · rw [sset_c] at hk
          rw [hw_o _ _ _ _ (by omega), sset_o _ _ _ (by omega)]
          by_cases q : k = S 0 0
          · rw [q, hw_c, sset_c]
          · rw [hw_k _ _ _ q, sset_k _ _ _ q]; exact t2 k (by omega)
        · rw [S1o 5 (by omega)]
          exact Cm_fr (fun c _ _ => m1o c (by omega) (by omega)) n
      · have k' := Ml_th (0 : Int32) k
        rw [e_X6_type, x6_in, bI_i, e_X6_type_13, if_neg h, k'.1.1]
        simp (disch := omega) only [lit_nI, eq_nI, in_iff, q1, h2, reduceIte, nI_add, cl_nI]
        obtain ⟨⟨t1, t2⟩, dd, n, u, kk, e, tr⟩ := k'
        have m1o : ∀ c, c ≠ 99 → c ≠ 100 → hw (hw (hw mi 99 0 (nI 0)) 100 (S 0 0) (nI d)) 99 3 (nI (S 0 0 + 1)) c = hw mi 99 0 0 c := fun c h1 h2 => by rw [hw_oo _ _ _ h1, hw_oo _ _ _ h2]; rfl
        have m99 : ∀ k, k ≠ 3 → hw (hw (hw mi 99 0 (nI 0)) 100 (S 0 0) (nI d)) 99 3 (nI (S 0 0 + 1)) 99 k = hw mi 99 0 0 99 k := fun k hk => by rw [hw_k _ _ _ hk, hw_o _ _ _ _ (by omega)]; rfl
        refine ⟨_, _, rfl, ⟨⟨by rw [hw_c, sset_c], fun k hk => ?_⟩, MlD_fr (by rw [m1o 101 (by omega) (by omega)]) (by rw [m1o 101 (by omega) (by omega)]) (fun c _ _ => m1o c (by omega) (by omega)) (S0 1 (by omega)) (S0 2 (by omega)) (S1o 2 (by omega)) (S1o 3 (by omega)) (S1o 4 (by omega)) dd, ?_, MlU_fr (m99 18 (by omega)) (m1o 108 (by omega) (by omega)) (S0 3 (by omega)) (fun i _ => S1o _ (by omega)) ok.2.2.2.1.1 u, MlK_fr (m1o 107 (by omega) (by omega)) (m1o 106 (by omega) (by omega)) (S1o 6 (by omega)) (fun i _ => S1o _ (by omega)) kk, by rw [m99 21 (by omega), S0 4 (by omega)]; exact e, tr⟩, fun c hc => by rw [m1o c (by omega) (by omega), hw_oo _ _ _ (by omega)], rfl⟩
        · rw [sset_c] at hk
          rw [hw_o _ _ _ _ (by omega), sset_o _ _ _ (by omega)]
          by_cases q : k = S 0 0
          · rw [q, hw_c, sset_c]
          · rw [hw_k _ _ _ q, sset_k _ _ _ q]; exact t2 k (by omega)
        · unfold Mm
          rw [m1o 105 (by omega) (by omega), S1o 5 (by omega)]
          exact n
      · refine Ok_T (by rw [sset_c]; omega) (fun k hk => ?_) S0 S1o ok
        rw [sset_c] at hk
        rw [sset_o _ _ _ (by omega)]
        by_cases q : k = S 0 0
        · rw [q, sset_c]; omega
        · rw [sset_k _ _ _ q]; exact ok.1.2 k (by omega)
