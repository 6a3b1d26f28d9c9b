/-! rate, trace, forget, seen, wilts -/
theorem Cl_T {mi : hM} {l1 ml : Nat → Nat → Int64} {pm : Nat → Option Nat} {S : pS} {T T' : Int64} (k : Cl mi ml pm S T) (h : l1 0 11 = T') : Cl mi l1 pm S T' := ⟨k.1, k.2.1, k.2.2.1, k.2.2.2.1, k.2.2.2.2.1, k.2.2.2.2.2.1, h⟩
theorem Ml_T {mi : hM} {l1 ml : Nat → Nat → Int64} {S : pS} {T T' : Int64} (k : Ml mi ml S T) (h : l1 99 1 = T') : Ml mi l1 S T' := ⟨k.1, k.2.1, k.2.2.1, k.2.2.2.1, k.2.2.2.2.1, k.2.2.2.2.2.1, h⟩
theorem c_tr {mi : hM} {ml : Nat → Nat → Int64} {pm : Nat → Option Nat} {S : pS} {T : Int64} (k : Cl mi ml pm S T) : ml 0 11 = T := k.2.2.2.2.2.2
theorem m_tr {mi : hM} {ml : Nat → Nat → Int64} {S : pS} {T : Int64} (k : Ml mi ml S T) : ml 99 1 = T := k.2.2.2.2.2.2
theorem hL_c (ml : Nat → Nat → Int64) (c k : Nat) (v : Int64) : hw ml c k v c k = v := by simp [hw]
theorem hL_w (ml : Nat → Nat → Int64) (c k : Nat) (v v' : Int64) : hw (hw ml c k v) c k v' = hw ml c k v' := by
  funext c' k'
  simp only [hw]
  by_cases h : c' = c
  · by_cases h2 : k' = k <;> simp [h, h2]
  · simp [h]
theorem t64 (T : Int64) (a b c : Int64) (h : a + b = c) : T + a + b = T + c := by rw [Int64.add_assoc, h]
def rtv (S : pS) (d f : Nat) : Int32 := if d = 0 then nI (S 2 f) else if d = 1 then nI (S 2 f) + nI (S 3 f) else if d = 2 then nI (S 2 f) - (if (S 5 2).testBit f then nI (S 5 (3 + f)) else 0) else if d = 3 then 2 * (nI (S 2 f) + nI (S 3 f)) else if d = 4 then nI (S 2 f) - (if (S 5 2).testBit f then nI (S 5 (3 + f)) else 0) + nI f else nI (S 2 f) + nI (S 4 f)
def rtt (d : Nat) : Int64 := if d = 0 then 1 else if d = 1 then 11 else if d = 2 then 101 else if d = 3 then 1011 else if d = 4 then 10101 else 100001
section V7
variable {mi : hM} {ml : Nat → Nat → Int64} {pm : Nat → Option Nat} {S : pS} {T : Int64}
theorem c_rF (k : Cl mi ml pm S T) (ok : Ok S) {f : Nat} (hf : f < S 0 1) (l : Nat → Nat → Int64) : f_X5_rateFlower [.ref 0, .int (nI f)] (hG mi l pm) = some (some (.int (nI (S 2 f))), hG mi (hw l 0 11 (l 0 11 + 1)) pm) := by
  have F7 := ok.F7
  rw [e_X5_rateFlower, if_pos (in_nI (by omega) (by omega)), cl_nI (by omega), c_th k _ hf]
theorem c_rS (k : Cl mi ml pm S T) (ok : Ok S) {f : Nat} (hf : f < S 0 1) (l : Nat → Nat → Int64) : f_X5_rateStalk [.ref 0, .int (nI f)] (hG mi l pm) = some (some (.int (nI (S 2 f) + nI (S 3 f))), hG mi (hw l 0 11 (l 0 11 + 11)) pm) := by
  have F7 := ok.F7
  rw [e_X5_rateStalk, c_rF k ok hf, bI_i, e_X5_rateStalk_17, if_pos (in_nI (by omega) (by omega)), cl_nI (by omega), c_st k _ hf, hL_w, hL_c, t64 _ 10 1 11 rfl]
theorem c_rH (k : Cl mi ml pm S T) (ok : Ok S) {f : Nat} (hf : f < S 0 1) (l : Nat → Nat → Int64) : f_X5_rateHead [.ref 0, .int (nI f)] (hG mi l pm) = some (some (.int (nI (S 2 f) - (if (S 5 2).testBit f then nI (S 5 (3 + f)) else 0))), hG mi (hw l 0 11 (l 0 11 + 101)) pm) := by
  have F7 := ok.F7
  have k' : Cl mi (hw l 0 11 (l 0 11 + 100)) pm S (l 0 11 + 100) := Cl_T k (hL_c _ _ _ _)
  rw [e_X5_rateHead, c_isPicked k' ok (by omega), bI_i, e_X5_rateHead_20]
  cases (S 5 2).testBit f with
  | false => rw [if_pos (by decide), e_X5_rateHead_36, c_rF k ok hf, bI_i, e_X5_rateHead_42, hL_w, hL_c, t64 _ 100 1 101 rfl]; rfl
  | true => rw [if_neg (by decide), if_pos (in_nI (by omega) (by omega)), cl_nI (by omega), c_dr k _ (by omega), e_X5_rateHead_36, c_rF k ok hf, bI_i, e_X5_rateHead_42, hL_w, hL_c, t64 _ 100 1 101 rfl]; rfl
theorem c_rate (k : Cl mi ml pm S T) (ok : Ok S) {d f : Nat} (hf : f < S 0 1) (hd : d ≤ 5) (t : Int32) (ht : ¬ t = 0) : w_X5_rate_5 (nI d) (nI f) t (hG mi ml pm) = some (some (.int (rtv S d f)), hG mi (hw ml 0 11 (T + rtt d)) pm) := by
  have F7 := ok.F7
  rw [e_X5_rate_5, if_neg ht]
  rcases (show d = 0 ∨ d = 1 ∨ d = 2 ∨ d = 3 ∨ d = 4 ∨ d = 5 by omega) with rfl | rfl | rfl | rfl | rfl | rfl
  · rw [if_pos (by decide), c_rF k ok hf, bI_i, e_X5_rate_57, c_tr k]; rfl
  · rw [if_neg (by decide), if_pos (by decide), c_rS k ok hf, bI_i, e_X5_rate_63, c_tr k]; rfl
  · rw [if_neg (by decide), if_neg (by decide), if_pos (by decide), c_rH k ok hf, bI_i, e_X5_rate_69, c_tr k]; rfl
  · rw [if_neg (by decide), if_neg (by decide), if_neg (by decide), if_pos (by decide), e_X5_rateNail, c_rS k ok hf, bI_i, e_X5_rateNail_18, bI_i, e_X5_rate_75, hL_w, hL_c, t64 _ 1000 11 1011 rfl, c_tr k]; rfl
  · rw [if_neg (by decide), if_neg (by decide), if_neg (by decide), if_neg (by decide), if_pos (by decide), e_X5_rateCrown, c_rH k ok hf, bI_i, e_X5_rateCrown_17, bI_i, e_X5_rate_81, hL_w, hL_c, t64 _ 10000 101 10101 rfl, c_tr k]; rfl
  · rw [if_neg (by decide), if_neg (by decide), if_neg (by decide), if_neg (by decide), if_neg (by decide), if_pos (by decide), e_X5_rateBud, c_rF k ok hf, bI_i, e_X5_rateBud_17, if_pos (in_nI (by omega) (by omega)), cl_nI (by omega), c_pe k _ hf, bI_i, e_X5_rate_87, hL_w, hL_c, t64 _ 100000 1 100001 rfl, c_tr k]; rfl
theorem m_rate (k : Ml mi ml S T) (ok : Ok S) {d f : Nat} (hf : f < S 0 1) (hd : d ≤ 5) (t : Int32) (ht : ¬ t = 0) : w_X6_rate_19 (nI d) (nI f) t (hG mi ml pm) = some (some (.int (rtv S d f)), hG mi (hw ml 99 1 (T + rtt d)) pm) := by
  have F7 := ok.F7
  have e50 : w_X6_rate_50 (nI d) (nI f) (nI (S 2 f) + nI (S 3 f)) (b01 ((S 5 2).testBit f)) (nI (S 2 f)) (hG mi ml pm) = w_X6_rate_65 (nI d) (nI f) (nI (S 2 f) + nI (S 3 f)) (if (S 5 2).testBit f then nI (S 5 (3 + f)) else 0) (nI (S 2 f)) (hG mi ml pm) := by
    rw [e_X6_rate_50]
    cases (S 5 2).testBit f with
    | false => rfl
    | true => rw [if_neg (by decide), lit_nI 3, nI_add, if_pos (in_nI (by omega) (by omega)), cl_nI (by omega), m_s k _ (by omega)]; rfl
  rw [e_X6_rate_19, if_neg ht, if_pos (in_nI (by omega) (by omega)), if_pos (in_nI (by omega) (by omega)), if_pos (in_nI (by omega) (by omega)), cl_nI (by omega), m_th k _ hf, m_st k _ hf, m_isPicked k ok (by omega), bI_i, e50, e_X6_rate_65, m_tr k]
  have i14 := in_nI (k := f) (n := 14) (by omega) (by omega)
  rcases (show d = 0 ∨ d = 1 ∨ d = 2 ∨ d = 3 ∨ d = 4 ∨ d = 5 by omega) with rfl | rfl | rfl | rfl | rfl | rfl
  · rw [if_pos (by decide), e_X6_rate_128, if_pos (by decide), if_pos i14, cl_nI (by omega), m_th k _ hf]; rfl
  · rw [if_neg (by decide), if_pos (by decide), e_X6_rate_128, if_neg (by decide), if_pos (by decide)]; rfl
  · rw [if_neg (by decide), if_neg (by decide), if_pos (by decide), e_X6_rate_128, if_neg (by decide), if_neg (by decide), if_pos (by decide)]; rfl
  · rw [if_neg (by decide), if_neg (by decide), if_neg (by decide), if_pos (by decide), e_X6_rate_128, if_neg (by decide), if_neg (by decide), if_neg (by decide), if_pos (by decide)]; rfl
  · rw [if_neg (by decide), if_neg (by decide), if_neg (by decide), if_neg (by decide), if_pos (by decide), e_X6_rate_128, if_neg (by decide), if_neg (by decide), if_neg (by decide), if_neg (by decide), if_pos (by decide)]; rfl
  · rw [if_neg (by decide), if_neg (by decide), if_neg (by decide), if_neg (by decide), if_neg (by decide), e_X6_rate_128, if_neg (by decide), if_neg (by decide), if_neg (by decide), if_neg (by decide), if_neg (by decide), if_pos i14, if_pos i14, cl_nI (by omega), m_th k _ hf, m_pe k _ hf]; rfl
theorem c_trace (k : Cl mi ml pm S T) : f_X5_trace [.ref 0] (hG mi ml pm) = some (some (.long T), hG mi ml pm) := by rw [e_X5_trace, c_tr k]
theorem m_trace (k : Ml mi ml S T) : f_X6_trace [.ref 99] (hG mi ml pm) = some (some (.long T), hG (hw mi 99 0 0) ml pm) := by rw [e_X6_trace, m_tr k]
end V7
theorem b_rate {S : pS} (ok : Ok S) (T : Int64) (a b : Int32) : ∃ v S' T', Both (f_X5_rate [.ref 0, .int a, .int b]) (f_X6_rate [.ref 99, .int a, .int b]) S T v S' T' := by
  have F7 := ok.F7
  by_cases h : wi3 b 0 (nI (S 0 1) - 1) = 0
  · refine ⟨-1000000, S, T, Both_q ok (fun mi ml pm k => ?_) (fun mi ml pm k => ?_)⟩
    · rw [e_X5_rate, c_isFlower k, bI_i, e_X5_rate_5, if_pos h]
    · rw [e_X6_rate, x6_in, bI_i, e_X6_rate_11]
      split
      · rfl
      · rw [m_isFlower (Ml_th (0 : Int32) k), bI_i, e_X6_rate_19, if_pos h]
  by_cases h2 : wi3 a 0 5 = 0
  · have n0 : ∀ d, d ≤ 5 → ¬ a = nI d := by
      rintro d hd rfl
      rcases (show d = 0 ∨ d = 1 ∨ d = 2 ∨ d = 3 ∨ d = 4 ∨ d = 5 by omega) with rfl | rfl | rfl | rfl | rfl | rfl <;> exact absurd h2 (by decide)
    refine ⟨-1000000, S, T, Both_q ok (fun mi ml pm k => ?_) (fun mi ml pm k => ?_)⟩
    · rw [e_X5_rate, c_isFlower k, bI_i, e_X5_rate_5, if_neg h, if_neg (show ¬ a = 0 from n0 0 (by omega)), if_neg (show ¬ a = 1 from n0 1 (by omega)), if_neg (show ¬ a = 2 from n0 2 (by omega)), if_neg (show ¬ a = 3 from n0 3 (by omega)), if_neg (show ¬ a = 4 from n0 4 (by omega)), if_neg (show ¬ a = 5 from n0 5 (by omega))]
    · rw [e_X6_rate, x6_in, bI_i, e_X6_rate_11, if_pos h2]
  obtain ⟨f, hf, rfl⟩ := fl_of (by omega) h
  obtain ⟨d, -, hd, rfl⟩ := nat_of (b := 0) (n := 5) (by omega) h2 (by omega)
  refine ⟨rtv S d f, S, T + rtt d, fun mi ml pm k => ?_, fun mi ml pm k => ?_, ok⟩
  · rw [e_X5_rate, c_isFlower k, bI_i, c_rate k ok hf hd _ h]
    exact ⟨_, _, _, rfl, Cl_T k (hL_c _ _ _ _), fun _ _ => rfl, hw_ne _ _ _ (by omega)⟩
  · have k' := Ml_th (0 : Int32) k
    rw [e_X6_rate, x6_in, bI_i, e_X6_rate_11, if_neg h2, m_isFlower k', bI_i, m_rate k' ok hf hd _ h]
    exact ⟨_, _, rfl, Ml_T k' (hL_c _ _ _ _), ml0 mi 0, hw_ne _ _ _ (by omega)⟩
/-- a state that differs in the number of what was seen alone -/
theorem Ok_E {S : pS} (ok : Ok S) {n : Nat} (hn : n ≤ 5) : Ok (sset S 0 4 n) := by
  obtain ⟨a, b, c, d, e, g⟩ := ok
  have h : ∀ r, 1 ≤ r → sset S 0 4 n r = S r := fun r hr => sset_o _ _ _ (by omega)
  have h0 : ∀ k, k ≠ 4 → sset S 0 4 n 0 k = S 0 k := fun k hk => sset_k _ _ _ hk
  refine ⟨?_, ?_, ?_, ?_, ?_, by rw [sset_c]; exact hn⟩
  · rw [h0 0 (by omega), h 1 (by omega)]; exact a
  · rw [h0 1 (by omega), h0 2 (by omega), h 2 (by omega), h 3 (by omega), h 4 (by omega)]; exact b
  · rw [h0 1 (by omega), h 3 (by omega), h 5 (by omega)]; exact c
  · rw [h0 3 (by omega), h0 1 (by omega), h 3 (by omega)]
    exact ⟨d.1, fun i hi => by rw [h (10 + i) (by omega)]; exact d.2 i hi⟩
  · intro i hi
    rw [h0 1 (by omega), h 3 (by omega), h 6 (by omega), h (20 + i) (by omega)]
    exact e i hi
theorem Ml_E {mi : hM} {ml : Nat → Nat → Int64} {S : pS} {T : Int64} (ok : Ok S) (k : Ml mi ml S T) {m1 : hM} {n : Nat} (h21 : m1 99 21 = nI n) (h99 : ∀ j, j ≠ 21 → m1 99 j = mi 99 j) (h : ∀ c, 100 ≤ c → c ≠ 109 → c ≠ 110 → m1 c = mi c) : Ml m1 ml (sset S 0 4 n) T := by
  have g : ∀ r, 1 ≤ r → sset S 0 4 n r = S r := fun r hr => sset_o _ _ _ (by omega)
  have g0 : ∀ k, k ≠ 4 → sset S 0 4 n 0 k = S 0 k := fun k hk => sset_k _ _ _ hk
  obtain ⟨t, d, nn, u, kk, e, tr⟩ := k
  refine ⟨MlT_fr (h99 3 (by omega)) (h 100 (by omega) (by omega) (by omega)) (g0 0 (by omega)) (g 1 (by omega)) t, MlD_fr (by rw [h 101 (by omega) (by omega) (by omega)]) (by rw [h 101 (by omega) (by omega) (by omega)]) (fun c _ _ => h c (by omega) (by omega) (by omega)) (g0 1 (by omega)) (g0 2 (by omega)) (g 2 (by omega)) (g 3 (by omega)) (g 4 (by omega)) d, ?_, MlU_fr (h99 18 (by omega)) (h 108 (by omega) (by omega) (by omega)) (g0 3 (by omega)) (fun i _ => g _ (by omega)) ok.u u, MlK_fr (h 107 (by omega) (by omega) (by omega)) (h 106 (by omega) (by omega) (by omega)) (g 6 (by omega)) (fun i _ => g _ (by omega)) kk, by rw [sset_c]; exact h21, tr⟩
  unfold Mm
  rw [h 105 (by omega) (by omega) (by omega), g 5 (by omega)]
  exact nn
theorem Cl_E {mi : hM} {ml : Nat → Nat → Int64} {pm : Nat → Option Nat} {S : pS} {T : Int64} (k : Cl mi ml pm S T) {m1 : hM} {n : Nat} (h8 : m1 0 8 = nI n) (h0 : ∀ j, j ≠ 8 → m1 0 j = mi 0 j) (h : ∀ c, 1 ≤ c → c < 84 → m1 c = mi c) (he : ∀ i, i < 5 → sx_01 (m1 (84 + 3 * i) 1) ∧ ∃ l, l ≤ 7 ∧ m1 (84 + 3 * i) 2 = nI l) : Cl m1 ml pm (sset S 0 4 n) T := by
  have g : ∀ r, 1 ≤ r → sset S 0 4 n r = S r := fun r hr => sset_o _ _ _ (by omega)
  have g0 : ∀ k, k ≠ 4 → sset S 0 4 n 0 k = S 0 k := fun k hk => sset_k _ _ _ hk
  obtain ⟨t, d, nn, u, kk, e, tr⟩ := k
  refine ⟨ClT_fr (by rw [h 1 (by omega) (by omega)]) (h 2 (by omega) (by omega)) (g0 0 (by omega)) (g 1 (by omega)) t, ClD_fr (fun c _ _ => h c (by omega) (by omega)) (g0 1 (by omega)) (g0 2 (by omega)) (g 2 (by omega)) (g 3 (by omega)) (g 4 (by omega)) d, ?_, ClU_fr (h0 4 (by omega)) (fun c _ _ => h c (by omega) (by omega)) (g0 3 (by omega)) (fun i _ => g _ (by omega)) u, ClK_fr (h 18 (by omega) (by omega)) (fun c _ _ => h c (by omega) (by omega)) (g 6 (by omega)) (fun i _ => g _ (by omega)) kk, ⟨by rw [sset_c]; exact h8, he⟩, tr⟩
  rw [g 5 (by omega)]
  exact Cm_fr (fun c _ _ => h c (by omega) (by omega)) nn
theorem b_forget {S : pS} (ok : Ok S) (T : Int64) : ∃ v S' T', Both (f_X5_forget [.ref 0]) (f_X6_forget [.ref 99]) S T v S' T' := by
  refine ⟨nI (S 0 4), sset S 0 4 0, T, fun mi ml pm k => ?_, fun mi ml pm k => ?_, Ok_E ok (by omega)⟩
  · rw [e_X5_forget, c_sn k]
    refine ⟨_, _, _, rfl, Cl_E k (hw_c _ _ _ _) (fun j hj => hw_k _ _ _ hj) (fun c _ _ => hw_oo _ _ _ (by omega)) (fun i hi => by rw [hw_oo _ _ _ (by omega)]; exact k.2.2.2.2.2.1.2 i hi), fun c hc => hw_oo _ _ _ (by omega), rfl⟩
  · have k' := Ml_th (0 : Int32) k
    rw [e_X6_forget, m_sn k]
    refine ⟨_, _, rfl, Ml_E ok k' (hw_c _ _ _ _) (fun j hj => hw_k _ _ _ hj) (fun c _ _ _ => hw_oo _ _ _ (by omega)), fun c hc => by rw [hw_oo _ _ _ (by omega), hw_oo _ _ _ (by omega)], rfl⟩
