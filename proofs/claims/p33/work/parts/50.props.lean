/-! the number of ones; props -/
def bit1 (p k : Nat) : Nat := if p.testBit k then 1 else 0
def pc (p : Nat) : Nat := sumN (bit1 p) 7
theorem bc_t : ∀ p, p < 128 → (((((((((nI p) - ((((nI p)).toUInt32 >>> ((1 : Int32).toUInt32 &&& Int32.toUInt32 31)).toInt32 &&& 1431655765)) &&& 858993459) + (((((nI p) - ((((nI p)).toUInt32 >>> ((1 : Int32).toUInt32 &&& Int32.toUInt32 31)).toInt32 &&& 1431655765))).toUInt32 >>> ((2 : Int32).toUInt32 &&& Int32.toUInt32 31)).toInt32 &&& 858993459)) + ((((((nI p) - ((((nI p)).toUInt32 >>> ((1 : Int32).toUInt32 &&& Int32.toUInt32 31)).toInt32 &&& 1431655765)) &&& 858993459) + (((((nI p) - ((((nI p)).toUInt32 >>> ((1 : Int32).toUInt32 &&& Int32.toUInt32 31)).toInt32 &&& 1431655765))).toUInt32 >>> ((2 : Int32).toUInt32 &&& Int32.toUInt32 31)).toInt32 &&& 858993459))).toUInt32 >>> ((4 : Int32).toUInt32 &&& Int32.toUInt32 31)).toInt32) &&& 252645135) + ((((((((nI p) - ((((nI p)).toUInt32 >>> ((1 : Int32).toUInt32 &&& Int32.toUInt32 31)).toInt32 &&& 1431655765)) &&& 858993459) + (((((nI p) - ((((nI p)).toUInt32 >>> ((1 : Int32).toUInt32 &&& Int32.toUInt32 31)).toInt32 &&& 1431655765))).toUInt32 >>> ((2 : Int32).toUInt32 &&& Int32.toUInt32 31)).toInt32 &&& 858993459)) + ((((((nI p) - ((((nI p)).toUInt32 >>> ((1 : Int32).toUInt32 &&& Int32.toUInt32 31)).toInt32 &&& 1431655765)) &&& 858993459) + (((((nI p) - ((((nI p)).toUInt32 >>> ((1 : Int32).toUInt32 &&& Int32.toUInt32 31)).toInt32 &&& 1431655765))).toUInt32 >>> ((2 : Int32).toUInt32 &&& Int32.toUInt32 31)).toInt32 &&& 858993459))).toUInt32 >>> ((4 : Int32).toUInt32 &&& Int32.toUInt32 31)).toInt32) &&& 252645135)).toUInt32 >>> ((8 : Int32).toUInt32 &&& Int32.toUInt32 31)).toInt32) + (((((((((nI p) - ((((nI p)).toUInt32 >>> ((1 : Int32).toUInt32 &&& Int32.toUInt32 31)).toInt32 &&& 1431655765)) &&& 858993459) + (((((nI p) - ((((nI p)).toUInt32 >>> ((1 : Int32).toUInt32 &&& Int32.toUInt32 31)).toInt32 &&& 1431655765))).toUInt32 >>> ((2 : Int32).toUInt32 &&& Int32.toUInt32 31)).toInt32 &&& 858993459)) + ((((((nI p) - ((((nI p)).toUInt32 >>> ((1 : Int32).toUInt32 &&& Int32.toUInt32 31)).toInt32 &&& 1431655765)) &&& 858993459) + (((((nI p) - ((((nI p)).toUInt32 >>> ((1 : Int32).toUInt32 &&& Int32.toUInt32 31)).toInt32 &&& 1431655765))).toUInt32 >>> ((2 : Int32).toUInt32 &&& Int32.toUInt32 31)).toInt32 &&& 858993459))).toUInt32 >>> ((4 : Int32).toUInt32 &&& Int32.toUInt32 31)).toInt32) &&& 252645135) + ((((((((nI p) - ((((nI p)).toUInt32 >>> ((1 : Int32).toUInt32 &&& Int32.toUInt32 31)).toInt32 &&& 1431655765)) &&& 858993459) + (((((nI p) - ((((nI p)).toUInt32 >>> ((1 : Int32).toUInt32 &&& Int32.toUInt32 31)).toInt32 &&& 1431655765))).toUInt32 >>> ((2 : Int32).toUInt32 &&& Int32.toUInt32 31)).toInt32 &&& 858993459)) + ((((((nI p) - ((((nI p)).toUInt32 >>> ((1 : Int32).toUInt32 &&& Int32.toUInt32 31)).toInt32 &&& 1431655765)) &&& 858993459) + (((((nI p) - ((((nI p)).toUInt32 >>> ((1 : Int32).toUInt32 &&& Int32.toUInt32 31)).toInt32 &&& 1431655765))).toUInt32 >>> ((2 : Int32).toUInt32 &&& Int32.toUInt32 31)).toInt32 &&& 858993459))).toUInt32 >>> ((4 : Int32).toUInt32 &&& Int32.toUInt32 31)).toInt32) &&& 252645135)).toUInt32 >>> ((8 : Int32).toUInt32 &&& Int32.toUInt32 31)).toInt32)).toUInt32 >>> ((16 : Int32).toUInt32 &&& Int32.toUInt32 31)).toInt32) &&& 63) = nI (pc p) := by decide +kernel
theorem on_t : ∀ p, p < 128 → ∀ k, k < 7 → ((nI p >>> (nI k &&& 31)) &&& 1) = nI (bit1 p k) := by decide +kernel
theorem sh_t : ∀ n, n < 8 → ((1 : Int32) <<< (nI n &&& 31)) = nI (2 ^ n) := by decide +kernel
theorem pc_b (p : Nat) : pc p ≤ 7 := by
  have h := sumN_b (g := bit1 p) (n := 7) (B := 1) (fun i _ => by unfold bit1; split <;> omega)
  exact h
def alN (p : Nat → Bool) : Nat → Bool
  | 0 => true
  | k + 1 => !p k && alN p k
theorem alN_t {p : Nat → Bool} {n : Nat} (h : ∀ k, k < n → ¬ p k = true) : alN p n = true := by
  induction n with
  | zero => rfl
  | succ n ih =>
    show (!p n && alN p n) = true
    rw [Bool.eq_false_iff.mpr (h n (by omega)), ih (fun k hk => h k (by omega))]; rfl
theorem alN_f {p : Nat → Bool} {n j : Nat} (hj : j < n) (h : p j = true) : alN p n = false := by
  induction n with
  | zero => omega
  | succ n ih =>
    show (!p n && alN p n) = false
    by_cases e : j = n
    · rw [← e, h]; rfl
    · rw [ih (by omega), Bool.and_false]
def hfp (S : pS) (p k : Nat) : Bool := decide (k < S 5 24 - 1) && decide (hlk S 0 k < lod (tch S) p (S 5 24 - 1 - k) (k + 1))
def prp (S : pS) : Nat → Nat
  | 0 => 0
  | i + 1 => if (prp S i = 0 ∨ pc (2 * i + 1) < pc (prp S i)) ∧ alN (hfp S (2 * i + 1)) (S 5 24) = true then 2 * i + 1 else prp S i
theorem prp_b (S : pS) (i : Nat) : prp S i ≤ 2 * i := by
  induction i with
  | zero => exact Nat.le_refl _
  | succ i ih =>
    show (if (prp S i = 0 ∨ pc (2 * i + 1) < pc (prp S i)) ∧ alN (hfp S (2 * i + 1)) (S 5 24) = true then 2 * i + 1 else prp S i) ≤ _
    split <;> omega
section V6
variable {mi : hM} {ml : Nat → Nat → Int64} {pm : Nat → Option Nat} {S : pS} {T : Int64}
theorem bitCount {p : Nat} (hp : p < 128) : f_J6_bitCount_0f7a4 [.int (nI p)] (hG mi ml pm) = some (some (.int (nI (pc p))), hG mi ml pm) := by
  rw [e_J6_bitCount_0f7a4, bc_t p hp]
theorem ones {p : Nat} (hp : p < 128) : f_X6_ones [.int (nI p)] (hG mi ml pm) = some (some (.int (nI (pc p))), hG mi ml pm) := by
  rw [e_X6_ones]
  refine Eq.trans (lpG (w := fun x i => w_X6_ones_4 (nI p) x i (hG mi ml pm)) (fun i => nI (sumN (bit1 p) i)) (n := 7) ?_ 0 (by omega)) ?_
  · intro i hi
    show w_X6_ones_4 _ _ (nI i) _ = w_X6_ones_4 _ _ (nI (i + 1)) _
    rw [e_X6_ones_4, if_neg (show ¬ (7 : Int32) ≤ nI i from nle (a := 7) hi (by omega)), on_t p hp i hi, nI_add, nI_1]; rfl
  · show w_X6_ones_4 _ _ _ _ = _
    rw [e_X6_ones_4, if_pos (by decide)]; rfl
theorem c_bears (k : Cl mi ml pm S T) (ok : Ok S) {p : Nat} (hp : p < 128) : f_X5_bearsHungFrom [.ref 0, .int (nI p)] (hG mi ml pm) = some (some (.int (b01 (alN (hfp S p) (S 5 24)))), hG mi ml pm) := by
  have F7 := ok.F7
  have n7 := ok.n7
  have key : ∀ i, i ≤ S 5 24 → w_X5_bearsHungFrom_12 (nI p) (nI (lod (tch S) p (S 5 24 - i) i)) (nI i - 1) (hG mi ml pm) = some (some (.int (b01 (alN (hfp S p) i))), hG mi ml pm) := by
    intro i
    induction i with
    | zero => intro _; rw [e_X5_bearsHungFrom_12, if_pos nm_0]; rfl
    | succ i ih =>
      intro hi
      rw [nm_s]
      have c := ok.ch (k := i) (by omega)
      have e50 : w_X5_bearsHungFrom_50 (nI p) (nI (lod (tch S) p (S 5 24 - (i + 1)) (i + 1))) (nI i) (nI (S 5 (25 + i))) (hG mi ml pm) = some (some (.int (b01 (alN (hfp S p) i))), hG mi ml pm) := by
        rw [← ih (by omega), e_X5_bearsHungFrom_50, nm_a, if_pos (in_nI (by omega) (by omega)), cl_nI (by omega), c_th k _ c, nI_add, show S 5 24 - i = (S 5 24 - (i + 1)) + 1 by omega]
        show _ = w_X5_bearsHungFrom_12 _ (nI (if p.testBit i then 0 else tch S i + lod (tch S) p (S 5 24 - (i + 1)) (i + 1))) _ _
        cases hb : p.testBit i with
        | true => rw [if_pos ((bit_1 hp (by omega)).mpr hb)]; rfl
        | false => rw [if_neg (fun q => by rw [(bit_1 hp (by omega)).mp q] at hb; cases hb), Nat.add_comm]; rfl
      have bl := lod_b (t := tch S) (p := p) (S 5 24 - (i + 1)) (i + 1) (fun j hj => ok.tch (by omega))
      have bh := hlk_b ok (n := 0) (j := i) (by omega)
      rw [e_X5_bearsHungFrom_12, if_neg (nn0 i (by omega)), if_pos (in_nI (by omega) (by omega)), cl_nI (by omega), c_ch k i (by omega), c_lc k ok, bI_i, e_X5_bearsHungFrom_35]
      show _ = some (some (Value.int (b01 (!hfp S p i && alN (hfp S p) i))), _)
      by_cases q : i < S 5 24 - 1
      · rw [if_neg (nle q (by omega)), c_hlk k ok (by omega), bI_i, e_X5_bearsHungFrom_45]
        have eh : hfp S p i = decide (hlk S 0 i < lod (tch S) p (S 5 24 - (i + 1)) (i + 1)) := by
          unfold hfp
          rw [decide_eq_true q, Bool.true_and, show S 5 24 - 1 - i = S 5 24 - (i + 1) by omega]
        rw [eh]
        by_cases q2 : hlk S 0 i < lod (tch S) p (S 5 24 - (i + 1)) (i + 1)
        · rw [if_neg (nle q2 (by omega)), decide_eq_true q2]; rfl
        · rw [if_pos (yle (by omega) (by omega)), decide_eq_false q2, e50]; rfl
      · rw [if_pos (yle (by omega) (by omega)), e50]
        have : hfp S p i = false := by unfold hfp; rw [decide_eq_false q]; rfl
        rw [this]; rfl
  rw [e_X5_bearsHungFrom, c_n k, show (0 : Int32) = nI (lod (tch S) p (S 5 24 - S 5 24) (S 5 24)) from by rw [Nat.sub_self]; rfl]
  exact key _ (Nat.le_refl _)
theorem p2b {n : Nat} (h : n ≤ 7) : 2 ^ n ≤ 128 := (Nat.pow_le_pow_right (by omega) h : 2 ^ n ≤ 2 ^ 7)
theorem c_props4 (k : Cl mi ml pm S T) (ok : Ok S) {i : Nat} (hi : 2 * i + 1 < 2 ^ S 5 24) : w_X5_leastProps_4 (nI (prp S i)) (nI (2 * i + 1)) (hG mi ml pm) = w_X5_leastProps_4 (nI (prp S (i + 1))) (nI (2 * (i + 1) + 1)) (hG mi ml pm) := by
  have F7 := ok.F7
  have n7 := ok.n7
  have p7 := p2b (n := S 5 24) (by omega)
  have pb := prp_b S i
  have e32 : w_X5_leastProps_32 (nI (prp S i)) (nI (2 * i + 1)) (hG mi ml pm) = w_X5_leastProps_4 (nI (if alN (hfp S (2 * i + 1)) (S 5 24) = true then 2 * i + 1 else prp S i)) (nI (2 * (i + 1) + 1)) (hG mi ml pm) := by
    rw [e_X5_leastProps_32, e_X5_leastProps_37, if_neg (by decide), c_bears k ok (by omega), bI_i, e_X5_leastProps_47, lit_nI 2, nI_add]
    cases alN (hfp S (2 * i + 1)) (S 5 24) <;> rfl
  rw [e_X5_leastProps_4, c_n k, sh_t _ (by omega), if_neg (nle hi (by omega))]
  show _ = w_X5_leastProps_4 (nI (if (prp S i = 0 ∨ pc (2 * i + 1) < pc (prp S i)) ∧ alN (hfp S (2 * i + 1)) (S 5 24) = true then 2 * i + 1 else prp S i)) _ _
  by_cases h0 : prp S i = 0
  · rw [if_pos (show nI (prp S i) = (0 : Int32) by rw [h0]; rfl), e32]
    simp only [h0, true_or, true_and]
  · rw [if_neg (nz h0 (by omega)), bitCount (by omega), bI_i, e_X5_leastProps_25, bitCount (by omega), bI_i, e_X5_leastProps_29]
    have b1 := pc_b (2 * i + 1)
    have b2 := pc_b (prp S i)
    by_cases q : pc (2 * i + 1) < pc (prp S i)
    · rw [if_neg (nle q (by omega)), e32]
      simp only [q, or_true, true_and]
    · rw [if_pos (yle (by omega) (by omega)), e_X5_leastProps_37, if_pos rfl, lit_nI 2, nI_add]
      simp only [h0, q, or_self, false_and, if_false]; rfl
theorem lpN {σ α : Type} {w : σ → Int32 → α} (g : Nat → σ) (x : Nat → Nat) {n : Nat} (hs : ∀ i, i < n → w (g i) (nI (x i)) = w (g (i + 1)) (nI (x (i + 1)))) : ∀ i, i ≤ n → w (g i) (nI (x i)) = w (g n) (nI (x n)) := by
  intro i hi
  obtain ⟨d, rfl⟩ : ∃ d, n = i + d := ⟨n - i, by omega⟩
  clear hi
  induction d generalizing i with
  | zero => rfl
  | succ d ih =>
    rw [hs i (by omega), ih (i + 1) (fun j hj => hs j (by omega)), show i + 1 + d = i + (d + 1) by omega]
def pN (n : Nat) : Nat := if n = 0 then 0 else 2 ^ (n - 1)
theorem pN_lt {n i : Nat} (h : i < pN n) : 2 * i + 1 < 2 ^ n := by
  unfold pN at h
  split at h
  · omega
  · rename_i q
    have : 2 ^ n = 2 ^ (n - 1) * 2 := by rw [← Nat.pow_succ]; congr 1; omega
    omega
theorem pN_ge (n : Nat) : 2 ^ n ≤ 2 * pN n + 1 := by
  unfold pN
  split
  · rename_i q; rw [q]; exact Nat.le_refl 1
  · rename_i q
    have : 2 ^ n = 2 ^ (n - 1) * 2 := by rw [← Nat.pow_succ]; congr 1; omega
    omega
theorem pN_b {n : Nat} (h : n ≤ 7) : pN n ≤ 64 := by
  unfold pN
  split
  · omega
  · exact (Nat.pow_le_pow_right (by omega) (by omega) : 2 ^ (n - 1) ≤ 2 ^ 6)
theorem c_leastProps (k : Cl mi ml pm S T) (ok : Ok S) : f_X5_leastProps [.ref 0] (hG mi ml pm) = some (some (.int (nI (prp S (pN (S 5 24))))), hG mi ml pm) := by
  have F7 := ok.F7
  have n7 := ok.n7
  rw [e_X5_leastProps]
  have pb := pN_b (n := S 5 24) (by omega)
  refine Eq.trans (lpN (w := fun x i => w_X5_leastProps_4 x i (hG mi ml pm)) (fun i => nI (prp S i)) (fun i => 2 * i + 1) (n := pN (S 5 24)) (fun i hi => c_props4 k ok (pN_lt hi)) 0 (by omega)) ?_
  show w_X5_leastProps_4 _ _ _ = _
  rw [e_X5_leastProps_4, c_n k, sh_t _ (by omega), if_pos (yle (pN_ge _) (by omega))]
theorem m_props35 (k : Ml mi ml S T) (ok : Ok S) (a : Int32) {i : Nat} (h1 : 0 < S 5 24) (hi : 2 * i + 1 < 2 ^ S 5 24) : w_X6_props_35 a (if prp S i = 0 then -9 else nI (prp S i)) (nI (2 * i + 1)) (hG mi ml pm) = w_X6_props_35 a (if prp S (i + 1) = 0 then -9 else nI (prp S (i + 1))) (nI (2 * (i + 1) + 1)) (hG mi ml pm) := by
  have F7 := ok.F7
  have n7 := ok.n7
  have p7 := p2b (n := S 5 24) (by omega)
  have pb := prp_b S i
  have e75 : ∀ x, w_X6_props_75 a x (nI (2 * i + 1)) 1 0 (hG mi ml pm) = w_X6_props_35 a (if alN (hfp S (2 * i + 1)) (S 5 24) = true then nI (2 * i + 1) else x) (nI (2 * (i + 1) + 1)) (hG mi ml pm) := by
    intro x
    have body : ∀ j, j < S 5 24 - 1 → w_X6_props_75 a x (nI (2 * i + 1)) 1 (nI j) (hG mi ml pm) = w_X6_props_75 a x (nI (2 * i + 1)) (b01 (!hfp S (2 * i + 1) j)) (nI (j + 1)) (hG mi ml pm) := by
      intro j hj
      have bl := lod_b (t := tch S) (p := 2 * i + 1) (S 5 24 - 1 - j) (j + 1) (fun j hj => ok.tch (by omega))
      have bh := hlk_b ok (n := 0) (j := j) (by omega)
      rw [e_X6_props_75, m_s k 24 (by omega), if_neg (nm1_n (by omega) (by omega)), if_neg (by decide), m_load k ok (by omega) (by omega), bI_i, e_X6_props_101, lit_nI 25, nI_add, if_pos (in_nI (by omega) (by omega)), cl_nI (by omega), m_s k _ (by omega), m_hlk k ok (by omega), bI_i, e_X6_props_115, nI_1]
      have eh : hfp S (2 * i + 1) j = decide (hlk S 0 j < lod (tch S) (2 * i + 1) (S 5 24 - 1 - j) (j + 1)) := by
        unfold hfp
        rw [decide_eq_true hj, Bool.true_and]
      rw [eh]
      by_cases q2 : hlk S 0 j < lod (tch S) (2 * i + 1) (S 5 24 - 1 - j) (j + 1)
      · rw [if_pos (ylt q2 (by omega)), decide_eq_true q2]; rfl
      · rw [if_neg (nlt (by omega) (by omega)), decide_eq_false q2]; rfl
    have out : ∀ j, ¬ j < S 5 24 - 1 → hfp S (2 * i + 1) j = false := by intro j hj; unfold hfp; rw [decide_eq_false hj]; rfl
    rcases first_or (fun j => hfp S (2 * i + 1) j = true) (S 5 24 - 1) with h | ⟨j, hj, q1, q2⟩
    · have ha : alN (hfp S (2 * i + 1)) (S 5 24) = true := alN_t (fun j hj => by
        by_cases q : j < S 5 24 - 1
        · exact h j q
        · rw [out j q]; decide)
      rw [ha, if_pos rfl]
      refine Eq.trans (lpG (w := fun (_ : Unit) j => w_X6_props_75 a x (nI (2 * i + 1)) 1 j (hG mi ml pm)) (fun _ => ()) (n := S 5 24 - 1) (fun j hj => by show w_X6_props_75 _ _ _ _ (nI j) _ = _; rw [body j hj, Bool.eq_false_iff.mpr (h j hj)]; rfl) 0 (by omega)) ?_
      show w_X6_props_75 _ _ _ _ _ _ = _
      rw [e_X6_props_75, m_s k 24 (by omega), if_pos (nm1_y (by omega) (by omega)), e_X6_props_131, if_neg (by decide), lit_nI 2, nI_add]; rfl
    · have ha : alN (hfp S (2 * i + 1)) (S 5 24) = false := alN_f (j := j) (by omega) q1
      rw [ha, if_neg (by decide)]
      refine Eq.trans (lpG (w := fun (_ : Unit) j => w_X6_props_75 a x (nI (2 * i + 1)) 1 j (hG mi ml pm)) (fun _ => ()) (n := j) (fun j' hj' => by show w_X6_props_75 _ _ _ _ (nI j') _ = _; rw [body j' (by omega), Bool.eq_false_iff.mpr (q2 j' hj')]; rfl) 0 (by omega)) ?_
      show w_X6_props_75 _ _ _ _ _ _ = _
      rw [body j hj, q1]
      show w_X6_props_75 _ _ _ 0 _ _ = _
      rw [e_X6_props_75, e_X6_props_131, if_pos rfl, if_pos rfl, lit_nI 2, nI_add]
      split <;> rfl
  rw [e_X6_props_35, m_s k 24 (by omega), sh_t _ (by omega), if_neg (nle hi (by omega))]
  have ep1 : ((prp S i = 0 ∨ pc (2 * i + 1) < pc (prp S i)) ∧ alN (hfp S (2 * i + 1)) (S 5 24) = true) → prp S (i + 1) = 2 * i + 1 := fun c => if_pos c
  have ep0 : ¬ ((prp S i = 0 ∨ pc (2 * i + 1) < pc (prp S i)) ∧ alN (hfp S (2 * i + 1)) (S 5 24) = true) → prp S (i + 1) = prp S i := fun c => if_neg c
  by_cases h0 : prp S i = 0
  · rw [if_pos h0, if_pos rfl, e75]
    cases ha : alN (hfp S (2 * i + 1)) (S 5 24) with
    | true => rw [if_pos rfl, ep1 ⟨Or.inl h0, ha⟩, if_neg (show ¬ 2 * i + 1 = 0 by omega)]
    | false => rw [if_neg (by decide), ep0 (fun c => by rw [ha] at c; cases c.2), if_pos h0]
  · rw [if_neg h0, if_neg (n9 (by omega)), ones (by omega), bI_i, e_X6_props_58, ones (by omega), bI_i, e_X6_props_62]
    have b1 := pc_b (2 * i + 1)
    have b2 := pc_b (prp S i)
    by_cases q : pc (2 * i + 1) < pc (prp S i)
    · rw [if_neg (nle q (by omega)), e75]
      cases ha : alN (hfp S (2 * i + 1)) (S 5 24) with
      | true => rw [if_pos rfl, ep1 ⟨Or.inr q, ha⟩, if_neg (show ¬ 2 * i + 1 = 0 by omega)]
      | false => rw [if_neg (by decide), ep0 (fun c => by rw [ha] at c; cases c.2), if_neg h0]
    · rw [if_pos (yle (by omega) (by omega)), ep0 (fun c => by rcases c.1 with c | c; exact h0 c; exact q c), if_neg h0, e_X6_props_75, e_X6_props_131, if_pos rfl, if_pos rfl, lit_nI 2, nI_add]
      split <;> rfl
end V6
theorem lod_all {t : Nat → Nat} {p : Nat} {d k : Nat} (h : 0 < d → p.testBit k = true) : lod t p d k = 0 := by
  cases d with
  | zero => rfl
  | succ d =>
    show (if p.testBit k then 0 else _) = 0
    rw [h (by omega)]; rfl
/-- at the end something is found -/
theorem prp_pos {S : pS} (ok : Ok S) (h : 0 < S 5 24) : ¬ prp S (pN (S 5 24)) = 0 := by
  have F7 := ok.F7
  have n7 := ok.n7
  have e : pN (S 5 24) = (pN (S 5 24) - 1) + 1 := by
    have : 0 < pN (S 5 24) := by unfold pN; rw [if_neg (by omega)]; exact Nat.pow_pos (by omega)
    omega
  have e2 : 2 * (pN (S 5 24) - 1) + 1 = 2 ^ S 5 24 - 1 := by
    have : 2 ^ S 5 24 = pN (S 5 24) * 2 := by unfold pN; rw [if_neg (by omega), ← Nat.pow_succ]; congr 1; omega
    omega
  rw [e]
  intro c
  have c' : (if (prp S (pN (S 5 24) - 1) = 0 ∨ pc (2 * (pN (S 5 24) - 1) + 1) < pc (prp S (pN (S 5 24) - 1))) ∧ alN (hfp S (2 * (pN (S 5 24) - 1) + 1)) (S 5 24) = true then 2 * (pN (S 5 24) - 1) + 1 else prp S (pN (S 5 24) - 1)) = 0 := c
  have al : alN (hfp S (2 * (pN (S 5 24) - 1) + 1)) (S 5 24) = true := by
    apply alN_t
    intro k hk
    unfold hfp
    by_cases q : k < S 5 24 - 1
    · rw [lod_all (fun _ => by rw [e2, Nat.testBit_two_pow_sub_one]; exact decide_eq_true (by omega)), decide_eq_false (show ¬ hlk S 0 k < 0 by omega), Bool.and_false]; decide
    · rw [decide_eq_false q, Bool.false_and]; decide
  by_cases z : prp S (pN (S 5 24) - 1) = 0
  · rw [if_pos ⟨Or.inl z, al⟩] at c'; omega
  · split at c' <;> omega
theorem b_props {S : pS} (ok : Ok S) (T : Int64) (a : Int32) : ∃ v S' T', Both (f_X5_props [.ref 0, .int a]) (f_X6_props [.ref 99, .int a]) S T v S' T' := by
  have F7 := ok.F7
  have n7 := ok.n7
  have pb := pN_b (n := S 5 24) (by omega)
  have qb : prp S (pN (S 5 24)) < 128 := by
    have h1 := prp_b S (pN (S 5 24))
    rcases Nat.lt_or_ge (pN (S 5 24)) 64 with q | q
    · omega
    · by_cases q2 : prp S (pN (S 5 24)) = 128
      · have e : pN (S 5 24) = 63 + 1 := by omega
        rw [e] at q2
        have q3 : (if (prp S 63 = 0 ∨ pc (2 * 63 + 1) < pc (prp S 63)) ∧ alN (hfp S (2 * 63 + 1)) (S 5 24) = true then 2 * 63 + 1 else prp S 63) = 128 := q2
        have h2 := prp_b S 63
        split at q3 <;> omega
      · omega
  by_cases h : wi3 a 0 1 = 0
  · refine ⟨-1, S, T, Both_q ok (fun mi ml pm k => ?_) (fun mi ml pm k => ?_)⟩
    · rw [e_X5_props, x5_isWithin, bI_i, e_X5_props_6, if_pos h]
    · rw [e_X6_props, x6_in, bI_i, e_X6_props_11, if_pos h]
  · refine ⟨if a = 0 then nI (pc (prp S (pN (S 5 24)))) else nI (prp S (pN (S 5 24))), S, T, Both_q ok (fun mi ml pm k => ?_) (fun mi ml pm k => ?_)⟩
    · rw [e_X5_props, x5_isWithin, bI_i, e_X5_props_6, if_neg h, c_leastProps k ok, bI_i, e_X5_props_15, bitCount qb, bI_i, e_X5_props_24]
      split <;> rfl
    · have k' := Ml_th (0 : Int32) k
      rw [e_X6_props, x6_in, bI_i, e_X6_props_11, if_neg h]
      generalize hw mi 99 0 0 = m at k' ⊢
      rw [m_s k' 24 (by omega)]
      by_cases h0 : S 5 24 = 0
      · rw [h0, if_pos (show nI 0 = (0 : Int32) from rfl), e_X6_props_35, m_s k' 24 (by omega), h0, if_pos (by decide)]
        have o0 := ones (mi := m) (ml := ml) (pm := pm) (p := 0) (by omega)
        rw [show nI 0 = (0 : Int32) from rfl] at o0
        rw [o0, bI_i, e_X6_props_156]
        split <;> rfl
      · rw [if_neg (nz h0 (by omega))]
        refine Eq.trans (lpN (w := fun x i => w_X6_props_35 a x i (hG m ml pm)) (fun i => if prp S i = 0 then -9 else nI (prp S i)) (fun i => 2 * i + 1) (n := pN (S 5 24)) (fun i hi => m_props35 k' ok a (by omega) (pN_lt hi)) 0 (by omega)) ?_
        show w_X6_props_35 _ (if prp S (pN (S 5 24)) = 0 then -9 else nI (prp S (pN (S 5 24)))) (nI (2 * pN (S 5 24) + 1)) _ = _
        rw [if_neg (prp_pos ok (by omega)), e_X6_props_35, m_s k' 24 (by omega), sh_t _ (by omega), if_pos (yle (pN_ge _) (by omega)), ones qb, bI_i, e_X6_props_156]
        split <;> rfl
