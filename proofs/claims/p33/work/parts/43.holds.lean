/-! integers, bits, and what a slit holds -/
def zI (z : Int) : Int32 := Int32.ofInt z
theorem nI_z (n : Nat) : nI n = zI n := (Int32.ofInt_eq_ofNat (n := n)).symm
theorem z_sub (a b : Int) : zI a - zI b = zI (a - b) := (Int32.ofInt_sub a b).symm
theorem z_add (a b : Int) : zI a + zI b = zI (a + b) := (Int32.ofInt_add a b).symm
theorem z_toInt {a : Int} (h : -1000000000 ≤ a) (h' : a ≤ 1000000000) : (zI a).toInt = a := Int32.toInt_ofInt_of_le (by omega) (by omega)
theorem z_le {a b : Int} (h : -1000000000 ≤ a) (h' : a ≤ 1000000000) (g : -1000000000 ≤ b) (g' : b ≤ 1000000000) : zI a ≤ zI b ↔ a ≤ b := by
  rw [Int32.le_iff_toInt_le, z_toInt h h', z_toInt g g']
theorem z_lt {a b : Int} (h : -1000000000 ≤ a) (h' : a ≤ 1000000000) (g : -1000000000 ≤ b) (g' : b ≤ 1000000000) : zI a < zI b ↔ a < b := by
  rw [Int32.lt_iff_toInt_lt, z_toInt h h', z_toInt g g']
theorem z_eq {a b : Int} (h : -1000000000 ≤ a) (h' : a ≤ 1000000000) (g : -1000000000 ≤ b) (g' : b ≤ 1000000000) : zI a = zI b ↔ a = b := by
  rw [← Int32.toInt_inj, z_toInt h h', z_toInt g g']
theorem z_nat {a : Int} {n : Nat} (h : a = n) : zI a = nI n := by rw [nI_z, h]
/-- what a slit holds: thick, stalk, wilt, place, length, dry -/
def hol (th st w pl le dr : Nat) : Nat := if st < pl + le then 0 else 10 * th - 3 * le - pl - w * dr / 10
theorem hol_le (th st w pl le dr : Nat) : hol th st w pl le dr ≤ 10 * th := by unfold hol; split <;> omega
theorem hol_i {th w pl le dr : Nat} (h1 : th ≤ 9) (h3 : w ≤ 9) (h4 : pl ≤ 30) (h5 : le ≤ 9) (h6 : dr ≤ 1000) :
    (if 0 < ((10 * nI th - 3 * nI le) - nI pl) - (nI w * nI dr) / 10 then ((10 * nI th - 3 * nI le) - nI pl) - (nI w * nI dr) / 10 else (0 : Int32)) = nI (10 * th - 3 * le - pl - w * dr / 10) := by
  have hw : w * dr ≤ 9000 := Nat.mul_le_mul h3 h6
  have e : ((10 * nI th - 3 * nI le) - nI pl) - (nI w * nI dr) / 10 = zI ((10 * th : Nat) - (3 * le : Nat) - pl - (w * dr / 10 : Nat)) := by
    rw [lit_nI 10, lit_nI 3, pk_mul, pk_mul, pk_mul, pk_div (by omega) (by omega) (by omega), nI_z, nI_z, nI_z, nI_z, z_sub, z_sub, z_sub]
  rw [e, show (0 : Int32) = zI 0 from rfl]
  by_cases q : zI 0 < zI ((10 * th : Nat) - (3 * le : Nat) - pl - (w * dr / 10 : Nat))
  · rw [if_pos q]
    have q' := (z_lt (by omega) (by omega) (by omega) (by omega)).mp q
    exact z_nat (by omega)
  · rw [if_neg q]
    have q' : ¬ _ := fun h => q ((z_lt (by omega) (by omega) (by omega) (by omega)).mpr h)
    exact z_nat (by omega)
/-- a slit of the flower f now, with a dryness dr -/
def holS (S : pS) (w f dr : Nat) : Nat := hol (S 2 f) (S 3 f) w (S 5 (10 + f)) (S 5 (17 + f)) dr
theorem Cn {mi : hM} {d : Nat → Nat} (k : Cm mi 11 d) : (mi 11 0 = nI (d 0) ∧ mi 11 1 = nI (d 1) ∧ mi 11 2 = nI (d 2) ∧ mi 11 7 = nI (d 24)) ∧ (∀ f, f < 7 → mi 12 f = nI (d (3 + f)) ∧ mi 13 f = nI (d (10 + f)) ∧ mi 14 f = nI (d (17 + f))) ∧ (∀ k, k < d 24 → mi 15 k = nI (d (25 + k))) := k
theorem str0 {w dr : Nat} (h3 : w ≤ 9) (h6 : dr ≤ 1000) : (if 0 < (0 : Int32) - (nI w * nI dr) / 10 then (0 : Int32) - (nI w * nI dr) / 10 else (0 : Int32)) = nI 0 := by
  have h := hol_i (th := 0) (le := 0) (pl := 0) (by omega) h3 (by omega) (by omega) h6
  rw [show (10 * nI 0 - 3 * nI 0) - nI 0 = (0 : Int32) by decide, show 10 * 0 - 3 * 0 - 0 - w * dr / 10 = 0 by omega] at h
  exact h
theorem c_isOpen {mi : hM} {ml : Nat → Nat → Int64} {pm : Nat → Option Nat} {S : pS} {T : Int64} (k : Cl mi ml pm S T) (ok : Ok S) {f : Nat} (hf : f < S 0 1) :
    f_X5_isOpen [.ref 0, .int (nI f)] (hG mi ml pm) = some (some (.int (if S 3 f < S 5 (10 + f) + S 5 (17 + f) then 1 else 0)), hG mi ml pm) := by
  have h7 : f < 7 := by have := ok.2.1.1; omega
  have n2 := (Cn k.2.2.1).2.1
  obtain ⟨-, ⟨d1, d2, d3⟩, -⟩ := k
  obtain ⟨a1, a2, a3⟩ := d3 f hf
  obtain ⟨b1, b2, b3⟩ := n2 f h7
  have o1 := (ok.2.1.2.2 f hf).2.1.2
  have o2 := ok.2.2.1.2.2.2.2.1 f h7
  rw [e_X5_isOpen]
  simp (disch := omega) only [in_iff, h7, reduceIte, cl_nI, b2, b3, a2, nI_add, le_nI]
  by_cases q : S 3 f < S 5 (10 + f) + S 5 (17 + f)
  · rw [if_pos q, if_neg (by omega)]
  · rw [if_neg q, if_pos (by omega)]
theorem c_holdsLater {mi : hM} {ml : Nat → Nat → Int64} {pm : Nat → Option Nat} {S : pS} {T : Int64} (k : Cl mi ml pm S T) (ok : Ok S) {f n : Nat} (hf : f < S 0 1) (hn : n ≤ 400) :
    f_X5_holdsLater [.ref 0, .int (nI f), .int (nI n)] (hG mi ml pm) = some (some (.int (nI (holS S (S 0 2) f (S 5 (3 + f) + n)))), hG mi ml pm) := by
  have h7 : f < 7 := by have := ok.2.1.1; omega
  rw [e_X5_holdsLater, e_X5_freshHold, c_isOpen k ok hf, bI_i, e_X5_freshHold_5]
  have n2 := (Cn k.2.2.1).2.1
  obtain ⟨-, ⟨d1, d2, d3⟩, -⟩ := k
  obtain ⟨a1, a2, a3⟩ := d3 f hf
  obtain ⟨b1, b2, b3⟩ := n2 f h7
  have o0 := (ok.2.1.2.2 f hf).1.2
  have o1 := (ok.2.1.2.2 f hf).2.1.2
  have o2 := ok.2.2.1.2.2.2.2.1 f h7
  have o3 := ok.2.2.1.2.2.2.1 f h7
  have o4 := ok.2.1.2.1
  unfold holS hol
  by_cases q : S 3 f < S 5 (10 + f) + S 5 (17 + f)
  · rw [if_pos q, if_pos q, if_neg (by decide), bI_i, e_X5_holdsLater_5, e_X5_strength]
    simp (disch := omega) only [in_iff, h7, reduceIte, cl_nI, b1, d2, nI_add, bI_i, e_X5_holdsLater_26]
    rw [str0 o4 (by omega)]
  · rw [if_neg q, if_neg q, if_pos rfl]
    simp (disch := omega) only [in_iff, h7, reduceIte, cl_nI, a1, b2, b3, bI_i, e_X5_holdsLater_5, e_X5_strength, b1, d2, nI_add, e_X5_holdsLater_26]
    rw [hol_i o0 o4 o2.1 o2.2.1 (by omega)]
theorem c_holds {mi : hM} {ml : Nat → Nat → Int64} {pm : Nat → Option Nat} {S : pS} {T : Int64} (k : Cl mi ml pm S T) (ok : Ok S) {f : Nat} (hf : f < S 0 1) :
    f_X5_holds [.ref 0, .int (nI f)] (hG mi ml pm) = some (some (.int (nI (holS S (S 0 2) f (S 5 (3 + f))))), hG mi ml pm) := by
  rw [e_X5_holds]
  have h := c_holdsLater k ok hf (n := 0) (by omega)
  rw [show nI 0 = (0 : Int32) from rfl] at h
  rw [h, bI_i, e_X5_holds_6]; rfl
/-- holdsBy of the model: any place, length, dryness, wilt in bounds -/
theorem m_holdsBy {mi : hM} {ml : Nat → Nat → Int64} {pm : Nat → Option Nat} {S : pS} {T : Int64} (k : Ml mi ml S T) (ok : Ok S) {f pl le dr w : Nat} (hf : f < S 0 1) (h1 : pl ≤ 30) (h2 : le ≤ 9) (h3 : dr ≤ 1000) (h4 : w ≤ 9) :
    f_X6_holdsBy [.ref 99, .int (nI f), .int (nI pl), .int (nI le), .int (nI dr), .int (nI w)] (hG mi ml pm) = some (some (.int (nI (hol (S 2 f) (S 3 f) w pl le dr))), hG mi ml pm) := by
  have h7 : f < 14 := by have := ok.2.1.1; omega
  obtain ⟨a1, a2, a3⟩ := k.2.1.2.2 f hf
  have o0 := (ok.2.1.2.2 f hf).1.2
  have o1 := (ok.2.1.2.2 f hf).2.1.2
  have hi := hol_i (th := S 2 f) o0 h4 h1 h2 h3
  rw [e_X6_holdsBy, if_pos (in_nI h7 (by omega)), if_pos (in_nI h7 (by omega)), cl_nI (by omega), a1, a2, nI_add]
  unfold hol
  by_cases q : S 3 f < pl + le
  · rw [if_pos q, if_pos ((lt_nI (by omega) (by omega)).mpr q)]; rfl
  · rw [if_neg q, if_neg (fun h => q ((lt_nI (by omega) (by omega)).mp h)), ← hi]
    by_cases c : 0 < ((10 * nI (S 2 f) - 3 * nI le) - nI pl) - (nI w * nI dr) / 10
    · rw [if_pos c, if_pos (Int32.le_of_lt c)]
    · rw [if_neg c]
      by_cases c' : 0 ≤ ((10 * nI (S 2 f) - 3 * nI le) - nI pl) - (nI w * nI dr) / 10
      · rw [if_pos c']
        have e : ((10 * nI (S 2 f) - 3 * nI le) - nI pl) - (nI w * nI dr) / 10 = 0 := Int32.le_antisymm (Int32.not_lt.mp c) c'
        rw [e]
      · rw [if_neg c']
