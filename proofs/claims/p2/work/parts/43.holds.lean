/-! integers, bits, and what a slit holds -/
def zI (z : Int) : Int32 := Int32.ofInt z
theorem nI_z (n : Nat) : nI n = zI n := (Int32.ofInt_eq_ofNat (n := n)).symm
theorem z_sub (a b : Int) : zI a - zI b = zI (a - b) := (Int32.ofInt_sub a b).symm
theorem z_add (a b : Int) : zI a + zI b = zI (a + b) := (Int32.ofInt_add a b).symm
theorem z_toInt {a : Int} (h : -1000000000 ≤ a) (h' : a ≤ 1000000000) : (zI a).toInt = a := Int32.toInt_ofInt_of_le (by omega) (by omega)
theorem z_le {a b : Int} (h : -1000000000 ≤ a) (h' : a ≤ 1000000000) (g : -1000000000 ≤ b) (g' : b ≤ 1000000000) : zI a ≤ zI b ↔ a ≤ b := by
  rw [Int32.le_iff_toInt_le, z_toInt h h', z_toInt g g']
theorem z_lt {a b : Int} (h : -1000000000 ≤ a) (h' : a ≤ 1000000000) (g : -1000000000 ≤ b) (g' : b ≤ 1000000000) : zI a < zI b ↔ a < b := by
  rw [Int32.lt_iff_toInt_lt, z_toInt h h', z_toInt g g']
theorem z_eq {a b : Int} (h : -1000000000 ≤ a) (h' : a ≤ 1000000000) (g : -1000000000 ≤ b) (g' : b ≤ 1000000000) : zI a = zI b ↔ a = b := by
  rw [← Int32.toInt_inj, z_toInt h h', z_toInt g g']
theorem z_nat {a : Int} {n : Nat} (h : a = n) : zI a = nI n := by rw [nI_z, h]
/-- what a slit holds: thick, stalk, wilt, place, length, dry -/
def hol (th st w pl le dr : Nat) : Nat := if st < pl + le then 0 else 10 * th - 3 * le - pl - w * dr / 10
theorem hol_le (th st w pl le dr : Nat) : hol th st w pl le dr ≤ 10 * th := by unfold hol; split <;> omega
theorem hol_i {th st w pl le dr : Nat} (h1 : th ≤ 9) (h3 : w ≤ 9) (h4 : pl ≤ 30) (h5 : le ≤ 9) (h6 : dr ≤ 1000) :
    (if 0 < ((10 * nI th - 3 * nI le) - nI pl) - (nI w * nI dr) / 10 then ((10 * nI th - 3 * nI le) - nI pl) - (nI w * nI dr) / 10 else (0 : Int32)) = nI (10 * th - 3 * le - pl - w * dr / 10) := by
  have hw : w * dr ≤ 9000 := Nat.mul_le_mul h3 h6
  have e : ((10 * nI th - 3 * nI le) - nI pl) - (nI w * nI dr) / 10 = zI ((10 * th : Nat) - (3 * le : Nat) - pl - (w * dr / 10 : Nat)) := by
    rw [lit_nI 10, lit_nI 3, pk_mul, pk_mul, pk_mul, pk_div (by omega) (by omega) (by omega), nI_z, nI_z, nI_z, nI_z, z_sub, z_sub, z_sub]
  rw [e, show (0 : Int32) = zI 0 from rfl]
  by_cases q : zI 0 < zI ((10 * th : Nat) - (3 * le : Nat) - pl - (w * dr / 10 : Nat))
  · rw [if_pos q]
    have q' := (z_lt (by omega) (by omega) (by omega) (by omega)).mp q
    exact z_nat (by omega)
  · rw [if_neg q]
    have q' : ¬ _ := fun h => q ((z_lt (by omega) (by omega) (by omega) (by omega)).mpr h)
    exact z_nat (by omega)
