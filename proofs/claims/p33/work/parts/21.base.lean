/-! the small questions, on both sides -/
def wi3 (a b c : Int32) : Int32 := if a < b then 0 else if c < a then 0 else 1
theorem bI_i {α : Type} (v : Int32) (g : hp_G) (k : Int32 → hp_G → Option α) : bI (some (some (.int v), g)) k = k v g := rfl
theorem bL_l {α : Type} (v : Int64) (g : hp_G) (k : Int64 → hp_G → Option α) : bL (some (some (.long v), g)) k = k v g := rfl
theorem bV_v {α : Type} (g : hp_G) (k : hp_G → Option α) : bV (some (none, g)) k = k g := rfl
theorem wi3_01 (a b c : Int32) : sx_01 (wi3 a b c) := by
  unfold wi3
  split
  · exact Or.inl rfl
  · split
    · exact Or.inl rfl
    · exact Or.inr rfl
theorem wi3_0 {a b c : Int32} : wi3 a b c = 0 ↔ ¬ (b ≤ a ∧ a ≤ c) := by
  unfold wi3
  by_cases h1 : a < b
  · rw [if_pos h1]
    exact ⟨fun _ q => absurd q.1 (Int32.not_le.mpr h1), fun _ => rfl⟩
  · rw [if_neg h1]
    by_cases h2 : c < a
    · rw [if_pos h2]
      exact ⟨fun _ q => absurd q.2 (Int32.not_le.mpr h2), fun _ => rfl⟩
    · rw [if_neg h2]
      exact ⟨fun q => absurd q (by decide), fun q => absurd ⟨Int32.not_lt.mp h1, Int32.not_lt.mp h2⟩ q⟩
section B1
variable (mi : hM) (ml : Nat → Nat → Int64) (pm : Nat → Option Nat)
theorem x5_isWithin (a b c : Int32) : f_X5_isWithin [.int a, .int b, .int c] (hG mi ml pm) = some (some (.int (wi3 a b c)), hG mi ml pm) := by
  rw [e_X5_isWithin]; unfold wi3; split
  · rfl
  · split <;> rfl
theorem x6_in (a b c : Int32) : f_X6_in [.int a, .int b, .int c] (hG mi ml pm) = some (some (.int (wi3 a b c)), hG mi ml pm) := by
  rw [e_X6_in]; unfold wi3; split
  · rfl
  · split <;> rfl
theorem x5_isHold (a : Int32) : f_X5_isHold [.int a] (hG mi ml pm) = some (some (.int (wi3 a 0 99)), hG mi ml pm) := by
  rw [e_X5_isHold, x5_isWithin, bI_i, e_X5_isHold_7, if_pos (wi3_01 _ _ _)]
theorem x5_isFlower (a : Int32) : f_X5_isFlower [.ref 0, .int a] (hG mi ml pm) = some (some (.int (wi3 a 0 (mi 7 0 - 1))), hG mi ml pm) := by
  rw [e_X5_isFlower, x5_isWithin, bI_i, e_X5_isFlower_14, if_pos (wi3_01 _ _ _)]
theorem x6_isFlower (a : Int32) : f_X6_isFlower [.ref 99, .int a] (hG mi ml pm) = some (some (.int (wi3 a 0 (mi 101 0 - 1))), hG mi ml pm) := by
  rw [e_X6_isFlower, x6_in, bI_i, e_X6_isFlower_13, if_pos (wi3_01 _ _ _)]
end B1
theorem wi3_none (a : Int32) : wi3 a 0 (0 - 1) = 0 := by
  rw [wi3_0]
  intro h
  have h1 := Int32.le_iff_toInt_le.mp h.1
  have h2 := Int32.le_iff_toInt_le.mp h.2
  have e0 : (0 : Int32).toInt = 0 := rfl
  have e1 : (0 - 1 : Int32).toInt = -1 := by decide
  omega
