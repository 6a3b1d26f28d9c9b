/-! type, clear, count, trace, forget -/
theorem hw_c (mi : hM) (c k : Nat) (v : Int32) : hw mi c k v c k = v := by simp [hw]
theorem hw_k (mi : hM) (c : Nat) {k k' : Nat} (v : Int32) (h : k' ≠ k) : hw mi c k v c k' = mi c k' := by simp [hw, h]
theorem hw_o (mi : hM) {c c' : Nat} (k k' : Nat) (v : Int32) (h : c' ≠ c) : hw mi c k v c' k' = mi c' k' := by simp [hw, h]
theorem hw_oo (mi : hM) {c c' : Nat} (k : Nat) (v : Int32) (h : c' ≠ c) : hw mi c k v c' = mi c' := by funext k'; simp [hw, h]
theorem ml0 (mi : hM) (v : Int32) : ∀ c, c < 99 → hw mi 99 0 v c = mi c := fun c hc => hw_oo mi 0 v (by omega)
theorem Ml_th {mi : hM} {ml : Nat → Nat → Int64} {S : pS} {T : Int64} (v : Int32) (k : Ml mi ml S T) : Ml (hw mi 99 0 v) ml S T := by
  obtain ⟨⟨t1, t2⟩, d, n, ⟨u1, u2⟩, kk, e, tr⟩ := k
  refine ⟨⟨by rw [hw_k _ _ _ (by omega)]; exact t1, fun k hk => by rw [hw_o _ _ _ _ (by omega)]; exact t2 k hk⟩, ?_, ?_, ⟨by rw [hw_k _ _ _ (by omega)]; exact u1, ?_⟩, ?_, by rw [hw_k _ _ _ (by omega)]; exact e, tr⟩
  · rw [hw_oo _ _ _ (by omega), hw_oo _ _ _ (by omega), hw_oo _ _ _ (by omega), hw_oo _ _ _ (by omega)]; exact d
  · unfold Mm; rw [hw_oo _ _ _ (by omega)]; exact n
  · unfold Mm; rw [hw_oo _ _ _ (by omega)]; exact u2
  · unfold Mm; rw [hw_oo _ _ _ (by omega), hw_oo _ _ _ (by omega)]; exact kk
/-- a question to the class -/
theorem CO_q {mi : hM} {ml : Nat → Nat → Int64} {pm : Nat → Option Nat} {S : pS} {T : Int64} (k : Cl mi ml pm S T) {r : Option sx_R} {v : Int32} (h : r = some (some (.int v), hG mi ml pm)) : CO mi ml r v S T := ⟨mi, ml, pm, h, k, fun _ _ => rfl, rfl⟩
/-- a question to the model -/
theorem MO_q {mi : hM} {ml : Nat → Nat → Int64} {pm : Nat → Option Nat} {S : pS} {T : Int64} (k : Ml mi ml S T) {r : Option sx_R} {v : Int32} (h : r = some (some (.int v), hG (hw mi 99 0 0) ml pm)) : MO mi ml pm r v S T := ⟨hw mi 99 0 0, ml, h, Ml_th 0 k, ml0 mi 0, rfl⟩
def r_count (S : pS) (a : Int32) : Int32 := if a = 0 then nI (S 0 1) else if a = 1 then nI (S 0 2) else if a = 2 then nI (S 0 4) else if a = 3 then nI (S 0 0) else -1
theorem c_count {mi : hM} {ml : Nat → Nat → Int64} {pm : Nat → Option Nat} {S : pS} {T : Int64} (k : Cl mi ml pm S T) (a : Int32) : CO mi ml (f_X5_count [.ref 0, .int a] (hG mi ml pm)) (r_count S a) S T := by
  apply CO_q k
  rw [e_X5_count]
  unfold r_count
  rw [k.2.1.1, k.2.1.2.1, k.2.2.2.2.2.1.1, k.1.1]
  split
  · rfl
  · split
    · rfl
    · split
      · rfl
      · split
        · rfl
        · rfl
theorem in01 {a : Int32} (h : ¬ wi3 a 0 1 = 0) : a = 0 ∨ a = 1 := by
  have h1 : 0 ≤ a ∧ a ≤ 1 := by
    by_cases q : 0 ≤ a ∧ a ≤ 1
    · exact q
    · exact absurd (wi3_0.mpr q) h
  have g1 := Int32.le_iff_toInt_le.mp h1.1
  have g2 := Int32.le_iff_toInt_le.mp h1.2
  have e0 : (0 : Int32).toInt = 0 := rfl
  have e1 : (1 : Int32).toInt = 1 := rfl
  rcases (show a.toInt = 0 ∨ a.toInt = 1 by omega) with q | q
  · exact Or.inl (Int32.toInt_inj.mp q)
  · exact Or.inr (Int32.toInt_inj.mp q)
theorem m_count {mi : hM} {ml : Nat → Nat → Int64} {pm : Nat → Option Nat} {S : pS} {T : Int64} (k : Ml mi ml S T) (a : Int32) : MO mi ml pm (f_X6_count [.ref 99, .int a] (hG mi ml pm)) (r_count S a) S T := by
  have k' := Ml_th (0 : Int32) k
  apply MO_q k
  rw [e_X6_count, x6_in, bI_i, e_X6_count_11, k'.2.2.2.2.2.1, k'.1.1]
  unfold r_count
  by_cases h : wi3 a 0 1 = 0
  · have n0 : ¬ a = 0 := by rintro rfl; exact absurd h (by decide)
    have n1 : ¬ a = 1 := by rintro rfl; exact absurd h (by decide)
    rw [if_pos h, if_neg n0, if_neg n1]
    split
    · rfl
    · split
      · rfl
      · rfl
  · rw [if_neg h]
    rcases in01 h with rfl | rfl
    · rw [if_pos (by decide), if_pos rfl, show Int32.toNatClampNeg 0 = 0 from rfl, k'.2.1.1]
    · rw [if_pos (by decide), if_neg (by decide), if_pos rfl, show Int32.toNatClampNeg 1 = 1 from rfl, k'.2.1.2.1]
