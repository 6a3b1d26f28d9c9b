/-! NUMBERS AND LOOPS for reading the trees -/
abbrev hM : Type := Nat → Nat → Int32
theorem lpI {σ α : Type} {w : Int32 → σ → α} {I : Nat → σ → Prop} {n : Nat} (hs : ∀ i s, i < n → I i s → ∃ s', w (nI i) s = w (nI (i + 1)) s' ∧ I (i + 1) s') : ∀ {i : Nat}, i ≤ n → ∀ {s : σ}, I i s → ∃ s', w (nI i) s = w (nI n) s' ∧ I n s' := by
  intro i hi
  obtain ⟨d, rfl⟩ : ∃ d, n = i + d := ⟨n - i, by omega⟩
  clear hi
  induction d generalizing i with
  | zero => intro s h; exact ⟨s, rfl, h⟩
  | succ d ih =>
    intro s h
    obtain ⟨s1, e1, h1⟩ := hs i s (by omega) h
    have hs' : ∀ j t, j < i + 1 + d → I j t → ∃ s', w (nI j) t = w (nI (j + 1)) s' ∧ I (j + 1) s' := fun j t hj ht => hs j t (by omega) ht
    obtain ⟨s2, e2, h2⟩ := ih (i := i + 1) hs' h1
    rw [show i + (d + 1) = i + 1 + d by omega]
    exact ⟨s2, e1.trans e2, h2⟩
theorem in_nI {k n : Nat} (h : k < n) (hn : n ≤ 100000) : sx_in (nI k) n := vp_in_nI h (by omega)
theorem cl_nI {k : Nat} (h : k ≤ 100000) : (nI k).toNatClampNeg = k := nI_clamp (by omega)
theorem le_nI {a b : Nat} (ha : a ≤ 1000000000) (hb : b ≤ 1000000000) : nI a ≤ nI b ↔ a ≤ b := nI_leI (by omega) (by omega)
theorem lt_nI {a b : Nat} (ha : a ≤ 1000000000) (hb : b ≤ 1000000000) : nI a < nI b ↔ a < b := nI_ltI (by omega) (by omega)
theorem eq_nI {a b : Nat} (ha : a ≤ 1000000000) (hb : b ≤ 1000000000) : nI a = nI b ↔ a = b := nI_eq (by omega) (by omega)
/-- a heap that differs from another in one cell alone -/
def hcel (mi : hM) (c : Nat) (r : Nat → Int32) : hM := fun c' k => if c' = c then r k else mi c' k
theorem hw_hcel (mi : hM) (c k : Nat) (v : Int32) : hw mi c k v = hcel mi c (upd (mi c) k v) := by
  funext c' k'
  by_cases h : c' = c
  · subst h; simp [hw, hcel, upd]
  · simp [hw, hcel, h]
theorem hcel_at (mi : hM) (c : Nat) (r : Nat → Int32) : hcel mi c r c = r := by funext k; simp [hcel]
theorem hcel_ne (mi : hM) {c c' : Nat} (r : Nat → Int32) (h : c' ≠ c) : hcel mi c r c' = mi c' := by funext k; simp [hcel, h]
theorem hcel_hcel (mi : hM) (c : Nat) (r r' : Nat → Int32) : hcel (hcel mi c r) c r' = hcel mi c r' := by
  funext c' k'
  by_cases h : c' = c <;> simp [hcel, h]
theorem hcel_self (mi : hM) (c : Nat) : hcel mi c (mi c) = mi := by
  funext c' k'
  by_cases h : c' = c
  · subst h; simp [hcel]
  · simp [hcel, h]
theorem lit_nI (n : Nat) : (OfNat.ofNat n : Int32) = nI n := rfl
theorem in_iff {k n : Nat} (hk : k ≤ 1000000000) : sx_in (nI k) n ↔ k < n := by
  rw [show sx_in (nI k) n ↔ vp_in (nI k) n from Iff.rfl, vp_in_iff, nI_toInt (by omega)]
  omega
/-- notes(): the copy of NOW into its place -/
theorem x6_notes2 (ml : Nat → Nat → Int64) (pm : Nat → Option Nat) (mi0 : hM) {u : Nat} (hu : u ≤ 9) (h18 : mi0 99 18 = nI u) :
    w_X6_notes_47 0 (hG mi0 ml pm) = some (none, hG (hw (hcel mi0 108 (fun k => if 32 * u ≤ k ∧ k < 32 * u + 32 then mi0 105 (k - 32 * u) else mi0 108 k)) 99 18 (nI (u + 1))) ml pm) := by
  have key := lpI (w := fun i mi => w_X6_notes_47 i (hG mi ml pm)) (I := fun i mi => mi = hcel mi0 108 (fun k => if 32 * u ≤ k ∧ k < 32 * u + i then mi0 105 (k - 32 * u) else mi0 108 k)) (n := 32) ?_ (i := 0) (by omega) (s := mi0) ?_
  · obtain ⟨mi', e1, rfl⟩ := key
    rw [lit_nI, e1, e_X6_notes_47]
    simp (disch := omega) only [lit_nI, le_nI, hcel_ne, h18, nI_add, Nat.le_refl, reduceIte]
  · intro i mi hi hI
    refine ⟨_, ?_, rfl⟩
    subst hI
    have h1 : ¬ 32 ≤ i := by omega
    have h2 : 32 * u + i < 320 := by omega
    rw [e_X6_notes_47]
    simp (disch := omega) only [lit_nI, le_nI, in_iff, hcel_ne, h18, nI_add, pk_mul, h1, h2, hi, reduceIte, cl_nI, hw_hcel, hcel_hcel, hcel_at]
    congr 3
    funext k
    simp only [upd]
    by_cases hk : k = 32 * u + i
    · subst hk
      simp
    · rw [if_neg hk]
      by_cases h2 : 32 * u ≤ k ∧ k < 32 * u + i
      · rw [if_pos h2, if_pos ⟨h2.1, by omega⟩]
      · rw [if_neg h2, if_neg (by omega)]
  · funext c k
    by_cases hc : c = 108
    · subst hc
      simp only [hcel, if_true]
      rw [if_neg (by omega)]
    · simp [hcel, hc]
