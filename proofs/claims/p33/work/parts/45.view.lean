/-! looking a number up, on both sides -/
theorem lpG {σ α : Type} {w : σ → Int32 → α} (g : Nat → σ) {n : Nat} (hs : ∀ i, i < n → w (g i) (nI i) = w (g (i + 1)) (nI (i + 1))) : ∀ i, i ≤ n → w (g i) (nI i) = w (g n) (nI n) := by
  intro i hi
  obtain ⟨d, rfl⟩ : ∃ d, n = i + d := ⟨n - i, by omega⟩
  clear hi
  induction d generalizing i with
  | zero => rfl
  | succ d ih =>
    rw [hs i (by omega), ih (i + 1) (fun j hj => hs j (by omega)), show i + 1 + d = i + (d + 1) by omega]
theorem first_or (p : Nat → Prop) (n : Nat) : (∀ k, k < n → ¬ p k) ∨ ∃ k, k < n ∧ p k ∧ ∀ j, j < k → ¬ p j := by
  induction n with
  | zero => exact Or.inl (fun k hk => absurd hk (by omega))
  | succ n ih =>
    rcases ih with h | ⟨k, hk, h1, h2⟩
    · by_cases q : p n
      · exact Or.inr ⟨n, by omega, q, h⟩
      · refine Or.inl (fun k hk => ?_)
        by_cases e : k = n
        · rw [e]; exact q
        · exact h k (by omega)
    · exact Or.inr ⟨k, by omega, h1, h2⟩
theorem fl_of {a : Int32} {F : Nat} (hF : F ≤ 1000) (h : ¬ wi3 a 0 (nI F - 1) = 0) : ∃ f, f < F ∧ a = nI f := by
  rcases Nat.eq_zero_or_pos F with q | q
  · rw [q] at h; exact absurd (wi3_none a) h
  · rw [show nI F - 1 = nI (F - 1) from pk_sub (b := 1) (by omega), show (0 : Int32) = nI 0 from rfl] at h
    obtain ⟨d, -, h2, e⟩ := nat_of (by omega) h (by omega)
    exact ⟨d, by omega, e⟩
section V1
variable {mi : hM} {ml : Nat → Nat → Int64} {pm : Nat → Option Nat} {S : pS} {T : Int64}
theorem Ok.F7 (ok : Ok S) : S 0 1 ≤ 7 := ok.2.1.1
theorem Ok.n7 (ok : Ok S) : S 5 24 ≤ S 0 1 := ok.2.2.1.2.2.2.2.2.1
theorem Ok.ch (ok : Ok S) {k : Nat} (h : k < S 5 24) : S 5 (25 + k) < S 0 1 := (ok.2.2.1.2.2.2.2.2.2.1 k h).1
theorem Ok.b (ok : Ok S) {j : Nat} (h : j < 32) : S 5 j ≤ 600 := ok.2.2.1.2.2.2.2.2.2.2.2 j h
theorem Ok.u (ok : Ok S) : S 0 3 ≤ 10 := ok.2.2.2.1.1
theorem Ok.th (ok : Ok S) {f : Nat} (h : f < S 0 1) : 1 ≤ S 2 f ∧ S 2 f ≤ 9 := (ok.2.1.2.2 f h).1
theorem Ok.st (ok : Ok S) {f : Nat} (h : f < S 0 1) : 1 ≤ S 3 f ∧ S 3 f ≤ 30 := (ok.2.1.2.2 f h).2.1
theorem Ok.pe (ok : Ok S) {f : Nat} (h : f < S 0 1) : 1 ≤ S 4 f ∧ S 4 f ≤ 60 := (ok.2.1.2.2 f h).2.2
theorem Ok.pl (ok : Ok S) {f : Nat} (h : f < 7) : S 5 (10 + f) ≤ 30 ∧ S 5 (17 + f) ≤ 9 ∧ (S 5 (10 + f) = 0 ↔ S 5 (17 + f) = 0) := ok.2.2.1.2.2.2.2.1 f h
theorem c_F (k : Cl mi ml pm S T) : mi 7 0 = nI (S 0 1) := k.2.1.1
theorem c_w (k : Cl mi ml pm S T) : mi 7 1 = nI (S 0 2) := k.2.1.2.1
theorem c_th (k : Cl mi ml pm S T) : ∀ f, f < S 0 1 → mi 8 f = nI (S 2 f) := fun f h => (k.2.1.2.2 f h).1
theorem c_st (k : Cl mi ml pm S T) : ∀ f, f < S 0 1 → mi 9 f = nI (S 3 f) := fun f h => (k.2.1.2.2 f h).2.1
theorem c_pe (k : Cl mi ml pm S T) : ∀ f, f < S 0 1 → mi 10 f = nI (S 4 f) := fun f h => (k.2.1.2.2 f h).2.2
theorem c_mi (k : Cl mi ml pm S T) : mi 11 0 = nI (S 5 0) := k.2.2.1.1.1
theorem c_wa (k : Cl mi ml pm S T) : mi 11 1 = nI (S 5 1) := k.2.2.1.1.2.1
theorem c_pk (k : Cl mi ml pm S T) : mi 11 2 = nI (S 5 2) := k.2.2.1.1.2.2.1
theorem c_n (k : Cl mi ml pm S T) : mi 11 7 = nI (S 5 24) := k.2.2.1.1.2.2.2
theorem c_dr (k : Cl mi ml pm S T) : ∀ f, f < 7 → mi 12 f = nI (S 5 (3 + f)) := fun f h => (k.2.2.1.2.1 f h).1
theorem c_pl (k : Cl mi ml pm S T) : ∀ f, f < 7 → mi 13 f = nI (S 5 (10 + f)) := fun f h => (k.2.2.1.2.1 f h).2.1
theorem c_le (k : Cl mi ml pm S T) : ∀ f, f < 7 → mi 14 f = nI (S 5 (17 + f)) := fun f h => (k.2.2.1.2.1 f h).2.2
theorem c_ch (k : Cl mi ml pm S T) : ∀ f, f < S 5 24 → mi 15 f = nI (S 5 (25 + f)) := k.2.2.1.2.2
theorem c_kn (k : Cl mi ml pm S T) : mi 0 4 = nI (S 0 3) := k.2.2.2.1.1
theorem c_sn (k : Cl mi ml pm S T) : mi 0 8 = nI (S 0 4) := k.2.2.2.2.2.1.1
theorem m_F (k : Ml mi ml S T) : mi 101 0 = nI (S 0 1) := k.2.1.1
theorem m_w (k : Ml mi ml S T) : mi 101 1 = nI (S 0 2) := k.2.1.2.1
theorem m_th (k : Ml mi ml S T) : ∀ f, f < S 0 1 → mi 102 f = nI (S 2 f) := fun f h => (k.2.1.2.2 f h).1
theorem m_st (k : Ml mi ml S T) : ∀ f, f < S 0 1 → mi 103 f = nI (S 3 f) := fun f h => (k.2.1.2.2 f h).2.1
theorem m_pe (k : Ml mi ml S T) : ∀ f, f < S 0 1 → mi 104 f = nI (S 4 f) := fun f h => (k.2.1.2.2 f h).2.2
theorem m_s (k : Ml mi ml S T) : ∀ j, j < 32 → mi 105 j = nI (S 5 j) := fun j h => by have := k.2.2.1 j h; rwa [Nat.zero_add] at this
theorem m_kn (k : Ml mi ml S T) : mi 99 18 = nI (S 0 3) := k.2.2.2.1.1
theorem m_sn (k : Ml mi ml S T) : mi 99 21 = nI (S 0 4) := k.2.2.2.2.2.1
theorem Both_q {f5 f6 : hp_G → Option sx_R} {v : Int32} (ok : Ok S) (h5 : ∀ (mi : hM) ml pm, Cl mi ml pm S T → f5 (hG mi ml pm) = some (some (.int v), hG mi ml pm)) (h6 : ∀ (mi : hM) ml pm, Ml mi ml S T → f6 (hG mi ml pm) = some (some (.int v), hG (hw mi 99 0 0) ml pm)) : Both f5 f6 S T v S T :=
  ⟨fun mi ml pm k => CO_q k (h5 mi ml pm k), fun mi ml pm k => MO_q k (h6 mi ml pm k), ok⟩
theorem c_isFlower (k : Cl mi ml pm S T) (a : Int32) : f_X5_isFlower [.ref 0, .int a] (hG mi ml pm) = some (some (.int (wi3 a 0 (nI (S 0 1) - 1))), hG mi ml pm) := by rw [x5_isFlower, c_F k]
theorem m_isFlower (k : Ml mi ml S T) (a : Int32) : f_X6_isFlower [.ref 99, .int a] (hG mi ml pm) = some (some (.int (wi3 a 0 (nI (S 0 1) - 1))), hG mi ml pm) := by rw [x6_isFlower, m_F k]
/-- is it slit, is it open -/
def slt (S : pS) (f : Nat) : Bool := decide (0 < S 5 (17 + f))
def opn (S : pS) (f : Nat) : Bool := decide (S 3 f < S 5 (10 + f) + S 5 (17 + f))
theorem c_isSlit (k : Cl mi ml pm S T) (ok : Ok S) {f : Nat} (hf : f < 7) : f_X0_isSlit [.ref 11, .int (nI f)] (hG mi ml pm) = some (some (.int (b01 (slt S f))), hG mi ml pm) := by
  have o := ok.pl hf
  rw [e_X0_isSlit]
  simp (disch := omega) only [in_iff, hf, reduceIte, cl_nI, c_pl k, lit_nI, le_nI]
  unfold slt
  by_cases q : 0 < S 5 (17 + f)
  · rw [if_neg (by omega), decide_eq_true q]; rfl
  · rw [if_pos (by omega), decide_eq_false q]; rfl
theorem m_isSlit (k : Ml mi ml S T) (ok : Ok S) {f : Nat} (hf : f < 7) : f_X6_isSlit [.ref 99, .int (nI f)] (hG mi ml pm) = some (some (.int (b01 (slt S f))), hG mi ml pm) := by
  have o := ok.pl hf
  have h : 17 + f < 32 := by omega
  rw [e_X6_isSlit]
  simp (disch := omega) only [lit_nI, nI_add, in_iff, h, reduceIte, cl_nI, m_s k, le_nI]
  unfold slt
  by_cases q : 0 < S 5 (17 + f)
  · rw [if_neg (by omega), decide_eq_true q]; rfl
  · rw [if_pos (by omega), decide_eq_false q]; rfl
theorem c_opn (k : Cl mi ml pm S T) (ok : Ok S) {f : Nat} (hf : f < S 0 1) : f_X5_isOpen [.ref 0, .int (nI f)] (hG mi ml pm) = some (some (.int (b01 (opn S f))), hG mi ml pm) := by
  rw [c_isOpen k ok hf]; unfold opn b01; simp only [decide_eq_true_eq]
theorem m_opn (k : Ml mi ml S T) (ok : Ok S) {f : Nat} (hf : f < S 0 1) : f_X6_isOpen [.ref 99, .int (nI f)] (hG mi ml pm) = some (some (.int (b01 (opn S f))), hG mi ml pm) := by
  have F7 := ok.F7
  have o := ok.pl (f := f) (by omega)
  have o2 := ok.st hf
  have h : 17 + f < 32 := by omega
  have h' : 10 + f < 32 := by omega
  have h'' : f < 14 := by omega
  rw [e_X6_isOpen]
  simp (disch := omega) only [lit_nI, nI_add, in_iff, h, h', h'', reduceIte, cl_nI, m_s k, m_st k, le_nI]
  unfold opn
  by_cases q : S 3 f < S 5 (10 + f) + S 5 (17 + f)
  · rw [if_neg (by omega), decide_eq_true q]; rfl
  · rw [if_pos (by omega), decide_eq_false q]; rfl
theorem m_holds (k : Ml mi ml S T) (ok : Ok S) {f : Nat} (hf : f < S 0 1) : f_X6_holds [.ref 99, .int (nI f)] (hG mi ml pm) = some (some (.int (nI (holS S (S 0 2) f (S 5 (3 + f))))), hG mi ml pm) := by
  have F7 := ok.F7
  have o := ok.pl (f := f) (by omega)
  have o3 := ok.b (j := 3 + f) (by omega)
  have h : 17 + f < 32 := by omega
  have h' : 10 + f < 32 := by omega
  have h'' : 3 + f < 32 := by omega
  rw [e_X6_holds]
  simp (disch := omega) only [lit_nI, nI_add, in_iff, h, h', h'', reduceIte, cl_nI, m_s k, m_w k]
  rw [m_holdsBy k ok hf o.1 o.2.1 (by omega) ok.2.1.2.1, bI_i, e_X6_holds_37]; rfl
end V1
theorem b_flower {S : pS} (ok : Ok S) (T : Int64) (a b : Int32) : ∃ v S' T', Both (f_X5_flower [.ref 0, .int a, .int b]) (f_X6_flower [.ref 99, .int a, .int b]) S T v S' T' := by
  have F7 := ok.F7
  by_cases h : wi3 a 0 (nI (S 0 1) - 1) = 0
  · refine ⟨-1, S, T, Both_q ok (fun mi ml pm k => ?_) (fun mi ml pm k => ?_)⟩
    · rw [e_X5_flower, c_isFlower k, bI_i, e_X5_flower_5, if_pos h]
    · have k' := Ml_th (0 : Int32) k
      rw [e_X6_flower, m_isFlower k', bI_i, e_X6_flower_10, if_pos h]
  · obtain ⟨f, hf, rfl⟩ := fl_of (by omega) h
    have g7 : f < 7 := by omega
    have g14 : f < 14 := by omega
    have g1 : 10 + f < 32 := by omega
    have g2 : 17 + f < 32 := by omega
    have g3 : 3 + f < 32 := by omega
    by_cases h2 : wi3 b 0 7 = 0
    · have n0 : ∀ d, d ≤ 7 → ¬ b = nI d := by
        rintro d hd rfl
        rcases (show d = 0 ∨ d = 1 ∨ d = 2 ∨ d = 3 ∨ d = 4 ∨ d = 5 ∨ d = 6 ∨ d = 7 by omega) with rfl | rfl | rfl | rfl | rfl | rfl | rfl | rfl <;> exact absurd h2 (by decide)
      refine ⟨-1, S, T, Both_q ok (fun mi ml pm k => ?_) (fun mi ml pm k => ?_)⟩
      · rw [e_X5_flower, c_isFlower k, bI_i, e_X5_flower_5, if_neg h, if_neg (show ¬ b = 0 from n0 0 (by omega)), if_neg (show ¬ b = 1 from n0 1 (by omega)), if_neg (show ¬ b = 2 from n0 2 (by omega)), if_neg (show ¬ b = 3 from n0 3 (by omega)), if_neg (show ¬ b = 4 from n0 4 (by omega)), if_neg (show ¬ b = 5 from n0 5 (by omega)), if_neg (show ¬ b = 6 from n0 6 (by omega)), if_neg (show ¬ b = 7 from n0 7 (by omega))]
      · have k' := Ml_th (0 : Int32) k
        rw [e_X6_flower, m_isFlower k', bI_i, e_X6_flower_10, if_neg h, x6_in, bI_i, e_X6_flower_20, if_pos h2]
    · obtain ⟨d, -, hd, rfl⟩ := nat_of (b := 0) (n := 7) (by omega) h2 (by omega)
      refine ⟨if d = 0 then nI (S 2 f) else if d = 1 then nI (S 3 f) else if d = 2 then nI (S 4 f) else if d = 3 then b01 ((S 5 2).testBit f) else if d = 4 then (if (S 5 2).testBit f = true then nI (S 5 (3 + f)) else -9) else if d = 5 then nI (S 5 (10 + f)) else if d = 6 then nI (S 5 (17 + f)) else (if slt S f = true then nI (holS S (S 0 2) f (S 5 (3 + f))) else -9), S, T, Both_q ok (fun mi ml pm k => ?_) (fun mi ml pm k => ?_)⟩
      · rw [e_X5_flower, c_isFlower k, bI_i, e_X5_flower_5, if_neg h]
        rcases (show d = 0 ∨ d = 1 ∨ d = 2 ∨ d = 3 ∨ d = 4 ∨ d = 5 ∨ d = 6 ∨ d = 7 by omega) with rfl | rfl | rfl | rfl | rfl | rfl | rfl | rfl
        · simp (disch := omega) only [lit_nI, eq_nI, in_iff, g7, cl_nI, c_th k, reduceIte]
        · simp (disch := omega) only [lit_nI, eq_nI, in_iff, g7, cl_nI, c_st k, reduceIte]; rfl
        · simp (disch := omega) only [lit_nI, eq_nI, in_iff, g7, cl_nI, c_pe k, reduceIte]; rfl
        · simp (disch := omega) only [lit_nI, eq_nI, in_iff, g7, cl_nI, c_isPicked k ok, bI_i, e_X5_flower_94, reduceIte]
          cases (S 5 2).testBit f <;> rfl
        · simp (disch := omega) only [lit_nI, eq_nI, in_iff, g7, cl_nI, c_isPicked k ok, bI_i, e_X5_flower_111, c_dr k, reduceIte]
          cases (S 5 2).testBit f <;> rfl
        · simp (disch := omega) only [lit_nI, eq_nI, in_iff, g7, cl_nI, c_pl k, reduceIte]; rfl
        · simp (disch := omega) only [lit_nI, eq_nI, in_iff, g7, cl_nI, c_le k, reduceIte]; rfl
        · simp (disch := omega) only [lit_nI, eq_nI, in_iff, g7, cl_nI, c_isSlit k ok, bI_i, e_X5_flower_157, c_holds k ok, e_X5_flower_165, reduceIte]
          cases slt S f <;> rfl
      · have k' := Ml_th (0 : Int32) k
        rw [e_X6_flower, m_isFlower k', bI_i, e_X6_flower_10, if_neg h, x6_in, bI_i, e_X6_flower_20, if_neg h2]
        generalize hw mi 99 0 0 = m at k' ⊢
        rcases (show d = 0 ∨ d = 1 ∨ d = 2 ∨ d = 3 ∨ d = 4 ∨ d = 5 ∨ d = 6 ∨ d = 7 by omega) with rfl | rfl | rfl | rfl | rfl | rfl | rfl | rfl
        · simp (disch := omega) only [lit_nI, eq_nI, le_nI, in_iff, g14, cl_nI, m_th k', reduceIte]; rfl
        · simp (disch := omega) only [lit_nI, eq_nI, le_nI, in_iff, g14, cl_nI, m_st k', reduceIte]; rfl
        · simp (disch := omega) only [lit_nI, eq_nI, le_nI, in_iff, g14, cl_nI, m_pe k', reduceIte]; rfl
        · simp (disch := omega) only [lit_nI, eq_nI, le_nI, in_iff, cl_nI, m_isPicked k' ok, bI_i, e_X6_flower_79, reduceIte]
          cases (S 5 2).testBit f <;> rfl
        · simp (disch := omega) only [lit_nI, eq_nI, le_nI, nI_add, in_iff, g3, cl_nI, m_isPicked k' ok, bI_i, e_X6_flower_95, m_s k', reduceIte]
          cases (S 5 2).testBit f <;> rfl
        · simp (disch := omega) only [lit_nI, eq_nI, le_nI, nI_add, in_iff, g1, cl_nI, m_s k', reduceIte]; rfl
        · simp (disch := omega) only [lit_nI, eq_nI, le_nI, nI_add, in_iff, g2, cl_nI, m_s k', reduceIte]; rfl
        · simp (disch := omega) only [lit_nI, eq_nI, le_nI, nI_add, in_iff, cl_nI, m_isSlit k' ok, bI_i, e_X6_flower_152, m_holds k' ok, e_X6_flower_160, reduceIte]
          cases slt S f <;> rfl
theorem b_link {S : pS} (ok : Ok S) (T : Int64) (a : Int32) : ∃ v S' T', Both (f_X5_link [.ref 0, .int a]) (f_X6_link [.ref 99, .int a]) S T v S' T' := by
  have F7 := ok.F7
  have n7 := ok.n7
  by_cases h : wi3 a 0 (nI (S 5 24) - 1) = 0
  · refine ⟨-1, S, T, Both_q ok (fun mi ml pm k => ?_) (fun mi ml pm k => ?_)⟩
    · rw [e_X5_link, x5_isWithin, bI_i, e_X5_link_14, c_n k, if_pos h]
    · have k' := Ml_th (0 : Int32) k
      rw [e_X6_link, x6_in, bI_i, e_X6_link_19, m_s k 24 (by omega), if_pos h]
  · obtain ⟨f, hf, rfl⟩ := fl_of (by omega) h
    have g7 : f < 7 := by omega
    have g1 : 25 + f < 32 := by omega
    refine ⟨nI (S 5 (25 + f)), S, T, Both_q ok (fun mi ml pm k => ?_) (fun mi ml pm k => ?_)⟩
    · rw [e_X5_link, x5_isWithin, bI_i, e_X5_link_14, c_n k, if_neg h]
      simp (disch := omega) only [in_iff, g7, cl_nI, c_ch k, reduceIte]
    · have k' := Ml_th (0 : Int32) k
      rw [e_X6_link, x6_in, bI_i, e_X6_link_19, m_s k 24 (by omega), if_neg h]
      generalize hw mi 99 0 0 = m at k' ⊢
      simp (disch := omega) only [lit_nI, nI_add, in_iff, g1, cl_nI, m_s k', reduceIte]
