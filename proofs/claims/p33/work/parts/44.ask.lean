/-! the questions: bits, picked, slit, threads -/
theorem bit_t : ∀ p, p < 128 → ∀ f, f < 8 → decide (((nI p >>> (nI f &&& 31)) &&& 1) = 1) = p.testBit f := by decide +kernel
theorem bit_1 {p f : Nat} (hp : p < 128) (hf : f < 8) : (((nI p >>> (nI f &&& 31)) &&& 1) = 1) ↔ p.testBit f = true := by
  rw [← bit_t p hp f hf, decide_eq_true_iff]
def b01 (b : Bool) : Int32 := if b then 1 else 0
theorem b01_0 (b : Bool) : b01 b = 0 ↔ b = false := by cases b <;> decide
theorem pow7 {F : Nat} (h : F ≤ 7) {p : Nat} (hp : p < 2 ^ F) : p < 128 := Nat.lt_of_lt_of_le hp (Nat.pow_le_pow_right (by omega) h : 2 ^ F ≤ 2 ^ 7)
theorem Ok.pk {S : pS} (ok : Ok S) : S 5 2 < 128 := pow7 ok.2.1.1 ok.2.2.1.2.2.1
theorem c_isPicked {mi : hM} {ml : Nat → Nat → Int64} {pm : Nat → Option Nat} {S : pS} {T : Int64} (k : Cl mi ml pm S T) (ok : Ok S) {f : Nat} (hf : f < 8) :
    f_X0_isPicked [.ref 11, .int (nI f)] (hG mi ml pm) = some (some (.int (b01 ((S 5 2).testBit f))), hG mi ml pm) := by
  rw [e_X0_isPicked, k.2.2.1.1.2.2.1]
  by_cases q : (S 5 2).testBit f = true
  · rw [if_pos ((bit_1 ok.pk hf).mpr q), q]; rfl
  · rw [if_neg (fun h => q ((bit_1 ok.pk hf).mp h)), Bool.eq_false_iff.mpr q]; rfl
theorem m_isPicked {mi : hM} {ml : Nat → Nat → Int64} {pm : Nat → Option Nat} {S : pS} {T : Int64} (k : Ml mi ml S T) (ok : Ok S) {f : Nat} (hf : f < 8) :
    f_X6_isPicked [.ref 99, .int (nI f)] (hG mi ml pm) = some (some (.int (b01 ((S 5 2).testBit f))), hG mi ml pm) := by
  have e : mi 105 2 = nI (S 5 2) := k.2.2.1 2 (by omega)
  rw [e_X6_isPicked, e]
  by_cases q : (S 5 2).testBit f = true
  · rw [if_pos ((bit_1 ok.pk hf).mpr q), q]; rfl
  · rw [if_neg (fun h => q ((bit_1 ok.pk hf).mp h)), Bool.eq_false_iff.mpr q]; rfl
