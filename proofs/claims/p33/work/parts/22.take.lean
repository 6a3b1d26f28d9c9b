/-! Moment.take -/
def isM (a : Nat) : Prop := a < 113 ∧ hp_sh a = (0, 0)
theorem isM_arr : ∀ a, a < 113 → hp_sh a = (0, 0) → a + 4 < 113 ∧ hp_sh (a + 1) = (1, 7) ∧ hp_sh (a + 2) = (1, 7) ∧ hp_sh (a + 3) = (1, 7) ∧ hp_sh (a + 4) = (1, 7) ∧ a ≠ 16 ∧ a < 99 := by decide +kernel
theorem isM_far : ∀ a, a < 113 → ∀ b, b < 113 → (¬ (hp_sh a = (0, 0) ∧ hp_sh b = (0, 0) ∧ a ≠ b)) ∨ a + 5 ≤ b ∨ b + 5 ≤ a := by decide +kernel
theorem isM_11 : isM 11 := ⟨by decide, by decide⟩
theorem M_isT {a : Nat} (h : isM a) {m : hM} {ml : Nat → Nat → Int64} {pm : Nat → Option Nat} : sx_is (hG m ml pm) a (0, 0) = True := eq_true ⟨h.1, h.2⟩
theorem M_xm {a : Nat} (h : isM a) (pm : Nat → Option Nat) : xm pm a 3 = some (a + 1) ∧ xm pm a 4 = some (a + 2) ∧ xm pm a 5 = some (a + 3) ∧ xm pm a 6 = some (a + 4) := by
  have h16 : Nat.beq a 16 = false := by
    cases q : Nat.beq a 16 with
    | false => rfl
    | true => exact absurd (Nat.eq_of_beq_eq_true q) (isM_arr a h.1 h.2).2.2.2.2.2.1
  have hs := h.2
  refine ⟨?_, ?_, ?_, ?_⟩ <;> simp only [xm, h16, cond_false, xn, hs] <;> rfl
theorem M_cp {a b : Nat} (ha : isM a) (hb : isM b) {i : Nat} (h1 : 1 ≤ i) (h4 : i ≤ 4) : (Nat.ble 0 4 = true ∧ (b + i < 113 ∧ a + i < 113) ∧ ((hp_sh (b + i)).1 = 1 ∧ (hp_sh (a + i)).1 = 1) ∧ (¬ (0 : Int32) < 0 ∧ ¬ (0 : Int32) < 0 ∧ ¬ (7 : Int32) < 0) ∧ (0 : Int32).toNatClampNeg + (7 : Int32).toNatClampNeg ≤ (hp_sh (b + i)).2 ∧ (0 : Int32).toNatClampNeg + (7 : Int32).toNatClampNeg ≤ (hp_sh (a + i)).2) = True := by
  apply eq_true
  obtain ⟨a0, a1, a2, a3, a4, -⟩ := isM_arr a ha.1 ha.2
  obtain ⟨b0, b1, b2, b3, b4, -⟩ := isM_arr b hb.1 hb.2
  have key : hp_sh (a + i) = (1, 7) ∧ hp_sh (b + i) = (1, 7) := by
    rcases (show i = 1 ∨ i = 2 ∨ i = 3 ∨ i = 4 by omega) with rfl | rfl | rfl | rfl
    · exact ⟨a1, b1⟩
    · exact ⟨a2, b2⟩
    · exact ⟨a3, b3⟩
    · exact ⟨a4, b4⟩
  rw [key.1, key.2]
  exact ⟨rfl, ⟨by omega, by omega⟩, ⟨rfl, rfl⟩, ⟨by decide, by decide, by decide⟩, by decide, by decide⟩
/-- a Moment becomes as another: its numbers and its four rows -/
def tkm (mi : hM) (a b : Nat) : hM := fun c k =>
  if c = a then (if k = 0 ∨ k = 1 ∨ k = 2 ∨ k = 7 then mi b k else mi a k)
  else if a < c ∧ c ≤ a + 4 then (if k < 7 then mi (b + (c - a)) k else mi c k) else mi c k
theorem x0_take (mi : hM) (ml : Nat → Nat → Int64) (pm : Nat → Option Nat) {a b : Nat} (ha : isM a) (hb : isM b) (hne : a ≠ b) : f_X0_take [.ref a, .ref b] (hG mi ml pm) = some (none, hG (tkm mi a b) ml pm) := by
  obtain ⟨xa3, xa4, xa5, xa6⟩ := M_xm ha pm
  obtain ⟨xb3, xb4, xb5, xb6⟩ := M_xm hb pm
  have far := (isM_far a ha.1 b hb.1).resolve_left (fun q => q ⟨ha.2, hb.2, hne⟩)
  rw [e_X0_take]
  simp only [M_isT ha, M_isT hb, xa3, xa4, xa5, xa6, xb3, xb4, xb5, xb6, Option.bind_some, M_cp ha hb (i := 1) (by omega) (by omega), M_cp ha hb (i := 2) (by omega) (by omega), M_cp ha hb (i := 3) (by omega) (by omega), M_cp ha hb (i := 4) (by omega) (by omega), reduceIte]
  congr 3
  funext c k
  have hn : ¬ b = a := fun q => hne q.symm
  by_cases hc : c = a
  · subst hc
    have g1 : ¬ c = c + 1 := by omega
    have g2 : ¬ c = c + 2 := by omega
    have g3 : ¬ c = c + 3 := by omega
    have g4 : ¬ c = c + 4 := by omega
    simp only [tkm, hy, hw, hn, g1, g2, g3, g4, if_true, if_false]
    by_cases k7 : k = 7
    · subst k7; simp
    · by_cases k2 : k = 2
      · subst k2; simp
      · by_cases k1 : k = 1
        · subst k1; simp
        · by_cases k0 : k = 0
          · subst k0; simp
          · simp [k7, k2, k1, k0]
  · by_cases h1 : c = a + 1
    · subst h1
      have g0 : ¬ b + 1 = a := by omega
      have gg : a < a + 1 ∧ a + 1 ≤ a + 4 := by omega
      simp only [tkm, hy, hw, va_cpy, hc, gg, g0, show ¬ a + 1 = a + 2 by omega, show ¬ a + 1 = a + 3 by omega, show ¬ a + 1 = a + 4 by omega, show a + 1 - a = 1 by omega, if_true, if_false, and_self]
      by_cases hk : k < 7 <;> simp [hk]
    · by_cases h2 : c = a + 2
      · subst h2
        have gg : a < a + 2 ∧ a + 2 ≤ a + 4 := by omega
        simp only [tkm, hy, hw, va_cpy, hc, gg, show ¬ b + 2 = a by omega, show ¬ b + 2 = a + 1 by omega, show ¬ a + 2 = a + 1 by omega, show ¬ a + 2 = a + 3 by omega, show ¬ a + 2 = a + 4 by omega, show a + 2 - a = 2 by omega, if_true, if_false, and_self]
        by_cases hk : k < 7 <;> simp [hk]
      · by_cases h3 : c = a + 3
        · subst h3
          have gg : a < a + 3 ∧ a + 3 ≤ a + 4 := by omega
          simp only [tkm, hy, hw, va_cpy, hc, gg, show ¬ b + 3 = a by omega, show ¬ b + 3 = a + 1 by omega, show ¬ b + 3 = a + 2 by omega, show ¬ a + 3 = a + 1 by omega, show ¬ a + 3 = a + 2 by omega, show ¬ a + 3 = a + 4 by omega, show a + 3 - a = 3 by omega, if_true, if_false, and_self]
          by_cases hk : k < 7 <;> simp [hk]
        · by_cases h4 : c = a + 4
          · subst h4
            have gg : a < a + 4 ∧ a + 4 ≤ a + 4 := by omega
            simp only [tkm, hy, hw, va_cpy, hc, gg, show ¬ b + 4 = a by omega, show ¬ b + 4 = a + 1 by omega, show ¬ b + 4 = a + 2 by omega, show ¬ b + 4 = a + 3 by omega, show ¬ a + 4 = a + 1 by omega, show ¬ a + 4 = a + 2 by omega, show ¬ a + 4 = a + 3 by omega, show a + 4 - a = 4 by omega, if_true, if_false, and_self]
            by_cases hk : k < 7 <;> simp [hk]
          · have gg : ¬ (a < c ∧ c ≤ a + 4) := by omega
            simp only [tkm, hy, hw, hc, h1, h2, h3, h4, gg, if_false]
