/-! now -/
theorem nz {n : Nat} (h : ¬ n = 0) (hn : n ≤ 100000) : ¬ nI n = (0 : Int32) := fun q => h ((eq_nI (b := 0) (by omega) (by omega)).mp q)
theorem nm1 (n : Nat) : nI n - nI 1 = zI ((n : Int) - 1) := by rw [nI_z, nI_z, z_sub]; rfl
theorem nm1_le {n i : Nat} (hn : n ≤ 100000) (hi : i ≤ 100000) : nI n - nI 1 ≤ nI i ↔ n ≤ i + 1 := by
  rw [nm1, nI_z, z_le (by omega) (by omega) (by omega) (by omega)]; omega
theorem nm1_eq {n i : Nat} (hn : n ≤ 100000) (hi : i ≤ 100000) : nI i = nI n - nI 1 ↔ i + 1 = n := by
  rw [nm1, nI_z, z_eq (by omega) (by omega) (by omega) (by omega)]; omega
theorem lcm1 {n : Nat} (hn : n ≤ 100000) : (if 0 < nI n - 1 then nI n - 1 else 0) = nI (n - 1) := by
  show (if zI 0 < nI n - nI 1 then nI n - nI 1 else 0) = _
  rw [nm1]
  by_cases q : zI 0 < zI ((n : Int) - 1)
  · rw [if_pos q]
    have := (z_lt (by omega) (by omega) (by omega) (by omega)).mp q
    exact z_nat (by omega)
  · rw [if_neg q]
    have : ¬ _ := fun h => q ((z_lt (by omega) (by omega) (by omega) (by omega)).mpr h)
    rw [show n - 1 = 0 by omega]; rfl
def sumN (g : Nat → Nat) : Nat → Nat
  | 0 => 0
  | n + 1 => sumN g n + g n
theorem sumN_b {g : Nat → Nat} {n B : Nat} (h : ∀ i, i < n → g i ≤ B) : sumN g n ≤ n * B := by
  induction n with
  | zero => exact Nat.zero_le _
  | succ n ih =>
    have := ih (fun i hi => h i (by omega))
    have h2 := h n (by omega)
    show sumN g n + g n ≤ (n + 1) * B
    rw [Nat.succ_mul]; omega
theorem sumN_e {g g' : Nat → Nat} {n : Nat} (h : ∀ i, i < n → g i = g' i) : sumN g n = sumN g' n := by
  induction n with
  | zero => rfl
  | succ n ih =>
    show sumN g n + g n = sumN g' n + g' n
    rw [ih (fun i hi => h i (by omega)), h n (by omega)]
theorem or_t : ∀ a, a < 128 → ∀ c, c < 7 → nI a ||| ((1 : Int32) <<< (nI c &&& 31)) = nI (a ||| 2 ^ c) := by decide +kernel
theorem or_b {a c : Nat} (ha : a < 128) (hc : c < 7) : a ||| 2 ^ c < 128 := Nat.or_lt_two_pow (n := 7) ha (Nat.pow_lt_pow_right (by omega) hc)
theorem bit_t0 : ∀ p, p < 128 → ∀ f, f < 8 → decide (((nI p >>> (nI f &&& 31)) &&& 1) = 0) = !p.testBit f := by decide +kernel
theorem bit_0 {p f : Nat} (hp : p < 128) (hf : f < 8) : (((nI p >>> (nI f &&& 31)) &&& 1) = 0) ↔ p.testBit f = false := by
  have := bit_t0 p hp f hf
  by_cases q : ((nI p >>> (nI f &&& 31)) &&& 1) = 0
  · rw [decide_eq_true q] at this
    exact ⟨fun _ => by cases h : p.testBit f <;> simp_all, fun _ => q⟩
  · rw [decide_eq_false q] at this
    exact ⟨fun h => absurd h q, fun h => by rw [h] at this; cases this⟩
theorem or_bit (a c f : Nat) : (a ||| 2 ^ c).testBit f = (a.testBit f || decide (c = f)) := by rw [Nat.testBit_or, Nat.testBit_two_pow]
/-- is f among the first n of the chain -/
def amg (S : pS) (f : Nat) : Nat → Bool
  | 0 => false
  | n + 1 => amg S f n || decide (S 5 (25 + n) = f)
theorem amg_f {S : pS} {f n : Nat} (h : ∀ k, k < n → ¬ S 5 (25 + k) = f) : amg S f n = false := by
  induction n with
  | zero => rfl
  | succ n ih =>
    show (amg S f n || decide (S 5 (25 + n) = f)) = false
    rw [ih (fun k hk => h k (by omega)), decide_eq_false (h n (by omega))]; rfl
theorem amg_t {S : pS} {f n k : Nat} (hk : k < n) (h : S 5 (25 + k) = f) : amg S f n = true := by
  induction n with
  | zero => omega
  | succ n ih =>
    show (amg S f n || decide (S 5 (25 + n) = f)) = true
    by_cases e : k = n
    · rw [← e, decide_eq_true h, Bool.or_true]
    · rw [ih (by omega)]; rfl
def tak (S : pS) (g f : Nat) : Bool := slt S g && !opn S g && decide (S 2 f ≤ S 5 (17 + g))
def fit (S : pS) (f : Nat) : Bool := (S 5 2).testBit f && !amg S f (S 5 24) && (decide (S 5 24 = 0) || tak S (S 5 (25 + (S 5 24 - 1))) f)
def inc (S : pS) : Nat := if S 5 24 = 0 then 0 else S 3 (S 5 (25 + (S 5 24 - 1))) + sumN (fun k => S 5 (10 + S 5 (25 + k))) (S 5 24 - 1)
def canN (S : pS) : Nat → Nat
  | 0 => 0
  | i + 1 => if fit S i then canN S i ||| 2 ^ i else canN S i
theorem canN_b {S : pS} {i : Nat} (h : i ≤ 7) : canN S i < 128 := by
  induction i with
  | zero => exact (by decide : (0 : Nat) < 128)
  | succ i ih =>
    show (if fit S i then canN S i ||| 2 ^ i else canN S i) < 128
    split
    · exact or_b (ih (by omega)) (by omega)
    · exact ih (by omega)
def chaN (S : pS) : Nat → Nat
  | 0 => 0
  | i + 1 => chaN S i ||| 2 ^ S 5 (25 + i)
theorem chaN_b {S : pS} {i : Nat} (h : ∀ k, k < i → S 5 (25 + k) < 7) : chaN S i < 128 := by
  induction i with
  | zero => exact (by decide : (0 : Nat) < 128)
  | succ i ih => exact or_b (ih (fun k hk => h k (by omega))) (h i (by omega))
theorem chaN_t (S : pS) (f i : Nat) : (chaN S i).testBit f = amg S f i := by
  induction i with
  | zero => exact Nat.zero_testBit f
  | succ i ih =>
    show (chaN S i ||| 2 ^ S 5 (25 + i)).testBit f = (amg S f i || decide (S 5 (25 + i) = f))
    rw [or_bit, ih]
section V2
variable {mi : hM} {ml : Nat → Nat → Int64} {pm : Nat → Option Nat} {S : pS} {T : Int64}
theorem c_lc (k : Cl mi ml pm S T) (ok : Ok S) : f_X0_linkCount [.ref 11] (hG mi ml pm) = some (some (.int (nI (S 5 24 - 1))), hG mi ml pm) := by
  have F7 := ok.F7
  have n7 := ok.n7
  rw [e_X0_linkCount, c_n k, lcm1 (by omega)]
theorem c_last (k : Cl mi ml pm S T) (ok : Ok S) (h : 0 < S 5 24) : f_X0_lastOne [.ref 11] (hG mi ml pm) = some (some (.int (nI (S 5 (25 + (S 5 24 - 1))))), hG mi ml pm) := by
  have F7 := ok.F7
  have n7 := ok.n7
  rw [e_X0_lastOne, c_lc k ok, bI_i, e_X0_lastOne_8]
  simp (disch := omega) only [in_iff, cl_nI, c_ch k, if_pos]
theorem c_inches (k : Cl mi ml pm S T) (ok : Ok S) : f_X5_inches [.ref 0] (hG mi ml pm) = some (some (.int (nI (inc S))), hG mi ml pm) := by
  have F7 := ok.F7
  have n7 := ok.n7
  rw [e_X5_inches, c_n k]
  unfold inc
  by_cases h : S 5 24 = 0
  · rw [if_pos h, h, if_pos (show nI 0 = 0 from rfl)]; rfl
  · rw [if_neg h, if_neg (nz h (by omega)), c_last k ok (by omega), bI_i, e_X5_inches_26]
    have hl := ok.ch (k := S 5 24 - 1) (by omega)
    rw [if_pos (in_nI (by omega) (by omega)), cl_nI (by omega), c_st k _ hl]
    refine Eq.trans (lpG (w := fun x i => w_X5_inches_30 x i (hG mi ml pm)) (fun i => nI (S 3 (S 5 (25 + (S 5 24 - 1))) + sumN (fun k => S 5 (10 + S 5 (25 + k))) i)) (n := S 5 24 - 1) ?_ 0 (by omega)) ?_
    · intro i hi
      show w_X5_inches_30 _ (nI i) _ = w_X5_inches_30 _ (nI (i + 1)) _
      have := ok.ch (k := i) (by omega)
      rw [e_X5_inches_30, c_lc k ok, bI_i, e_X5_inches_38]
      simp (disch := omega) only [lit_nI, le_nI, in_iff, cl_nI, c_ch k, c_pl k, nI_add, if_pos, if_neg]
      rw [Nat.add_assoc]
      rfl
    · show w_X5_inches_30 _ _ _ = _
      rw [e_X5_inches_30, c_lc k ok, bI_i, e_X5_inches_38, if_pos (Int32.le_refl _)]
theorem c_isAmong (k : Cl mi ml pm S T) (ok : Ok S) {f n : Nat} (hf : f < 7) (hn : n ≤ S 5 24) : f_X0_isAmong [.ref 11, .int (nI f), .int (nI n)] (hG mi ml pm) = some (some (.int (b01 (amg S f n))), hG mi ml pm) := by
  have F7 := ok.F7
  have n7 := ok.n7
  have step : ∀ i, i < n → ¬ S 5 (25 + i) = f → w_X0_isAmong_2 (nI f) (nI n) (nI i) (hG mi ml pm) = w_X0_isAmong_2 (nI f) (nI n) (nI (i + 1)) (hG mi ml pm) := by
    intro i hi hne
    have := ok.ch (k := i) (by omega)
    rw [e_X0_isAmong_2]
    simp (disch := omega) only [lit_nI, le_nI, in_iff, cl_nI, c_ch k, eq_nI, nI_add, if_pos, if_neg]
  rw [e_X0_isAmong]
  rcases first_or (fun j => S 5 (25 + j) = f) n with h | ⟨j, hj, h1, h2⟩
  · rw [amg_f h]
    refine Eq.trans (lpG (w := fun (_ : Unit) i => w_X0_isAmong_2 (nI f) (nI n) i (hG mi ml pm)) (fun _ => ()) (n := n) (fun i hi => step i hi (h i hi)) 0 (by omega)) ?_
    show w_X0_isAmong_2 _ _ _ _ = _
    rw [e_X0_isAmong_2, if_pos (Int32.le_refl _)]; rfl
  · rw [amg_t hj h1]
    refine Eq.trans (lpG (w := fun (_ : Unit) i => w_X0_isAmong_2 (nI f) (nI n) i (hG mi ml pm)) (fun _ => ()) (n := j) (fun i hi => step i (by omega) (h2 i hi)) 0 (by omega)) ?_
    show w_X0_isAmong_2 _ _ _ _ = _
    have := ok.ch (k := j) (by omega)
    rw [e_X0_isAmong_2]
    simp (disch := omega) only [lit_nI, le_nI, in_iff, cl_nI, c_ch k, eq_nI, nI_add, if_pos, if_neg]
    rfl
theorem b01_01 (b : Bool) : sx_01 (b01 b) := by cases b; exact Or.inl rfl; exact Or.inr rfl
theorem c_isInChain (k : Cl mi ml pm S T) (ok : Ok S) {f : Nat} (hf : f < 7) : f_X0_isInChain [.ref 11, .int (nI f)] (hG mi ml pm) = some (some (.int (b01 (amg S f (S 5 24)))), hG mi ml pm) := by
  rw [e_X0_isInChain, c_n k, c_isAmong k ok hf (Nat.le_refl _), bI_i, e_X0_isInChain_9, if_pos (b01_01 _)]
theorem c_isLink (k : Cl mi ml pm S T) (ok : Ok S) {f : Nat} (hf : f < 7) : f_X0_isLink [.ref 11, .int (nI f)] (hG mi ml pm) = some (some (.int (b01 (amg S f (S 5 24 - 1)))), hG mi ml pm) := by
  rw [e_X0_isLink, c_lc k ok, bI_i, e_X0_isLink_6, c_isAmong k ok hf (by omega), bI_i, e_X0_isLink_9, if_pos (b01_01 _)]
theorem c_takes (k : Cl mi ml pm S T) (ok : Ok S) {g f : Nat} (hg : g < S 0 1) (hf : f < S 0 1) : f_X5_takes [.ref 0, .int (nI g), .int (nI f)] (hG mi ml pm) = some (some (.int (b01 (tak S g f))), hG mi ml pm) := by
  have F7 := ok.F7
  have o := ok.pl (f := g) (by omega)
  have o2 := ok.th hf
  rw [e_X5_takes, c_isSlit k ok (by omega), bI_i, e_X5_takes_8]
  unfold tak
  cases slt S g with
  | false => rfl
  | true =>
    rw [if_neg (by decide), c_opn k ok hg, bI_i, e_X5_takes_16]
    cases opn S g with
    | true => rfl
    | false =>
      rw [if_pos (by decide)]
      simp (disch := omega) only [in_iff, cl_nI, c_le k, c_th k, lt_nI, if_pos]
      by_cases q : S 5 (17 + g) < S 2 f
      · rw [if_pos q, decide_eq_false (by omega)]; rfl
      · rw [if_neg q, decide_eq_true (by omega)]; rfl
theorem c_fits (k : Cl mi ml pm S T) (ok : Ok S) {f : Nat} (hf : f < S 0 1) : f_X5_fitsBehind [.ref 0, .int (nI f)] (hG mi ml pm) = some (some (.int (b01 (fit S f))), hG mi ml pm) := by
  have F7 := ok.F7
  have n7 := ok.n7
  rw [e_X5_fitsBehind, c_isPicked k ok (by omega), bI_i, e_X5_fitsBehind_8]
  unfold fit
  cases (S 5 2).testBit f with
  | false => rfl
  | true =>
    rw [if_neg (by decide), c_isInChain k ok (by omega), bI_i, e_X5_fitsBehind_19]
    cases amg S f (S 5 24) with
    | true => rfl
    | false =>
      rw [if_pos (by decide), c_n k]
      by_cases h : S 5 24 = 0
      · rw [if_pos (by rw [h]; rfl), decide_eq_true h]; rfl
      · rw [if_neg (nz h (by omega)), decide_eq_false h, c_last k ok (by omega), bI_i, e_X5_fitsBehind_42, c_takes k ok (ok.ch (by omega)) hf, bI_i, e_X5_fitsBehind_46]
        cases tak S (S 5 (25 + (S 5 24 - 1))) f <;> rfl
theorem c_can (k : Cl mi ml pm S T) (ok : Ok S) : f_X5_canBeThreaded [.ref 0] (hG mi ml pm) = some (some (.int (nI (canN S (S 0 1)))), hG mi ml pm) := by
  have F7 := ok.F7
  rw [e_X5_canBeThreaded]
  refine Eq.trans (lpG (w := fun x i => w_X5_canBeThreaded_4 x i (hG mi ml pm)) (fun i => nI (canN S i)) (n := S 0 1) ?_ 0 (by omega)) ?_
  · intro i hi
    show w_X5_canBeThreaded_4 _ (nI i) _ = w_X5_canBeThreaded_4 _ (nI (i + 1)) _
    rw [e_X5_canBeThreaded_4, c_F k, if_neg (fun q => absurd ((le_nI (by omega) (by omega)).mp q) (by omega)), c_fits k ok hi, bI_i, e_X5_canBeThreaded_20, or_t _ (canN_b (by omega)) i (by omega), nI_1]
    show _ = w_X5_canBeThreaded_4 (nI (if fit S i then canN S i ||| 2 ^ i else canN S i)) _ _
    cases fit S i <;> rfl
  · show w_X5_canBeThreaded_4 _ _ _ = _
    rw [e_X5_canBeThreaded_4, c_F k, if_pos (Int32.le_refl _)]
theorem m_inches (k : Ml mi ml S T) (ok : Ok S) : f_X6_inchesNow [.ref 99] (hG mi ml pm) = some (some (.int (nI (inc S))), hG mi ml pm) := by
  have F7 := ok.F7
  have n7 := ok.n7
  rw [e_X6_inchesNow]
  refine Eq.trans (lpG (w := fun x i => w_X6_inchesNow_4 x i (hG mi ml pm)) (fun i => nI (sumN (fun j => if j + 1 = S 5 24 then S 3 (S 5 (25 + j)) else S 5 (10 + S 5 (25 + j))) i)) (n := S 5 24) ?_ 0 (by omega)) ?_
  · intro i hi
    show w_X6_inchesNow_4 _ (nI i) _ = w_X6_inchesNow_4 (nI (sumN _ i + (if i + 1 = S 5 24 then S 3 (S 5 (25 + i)) else S 5 (10 + S 5 (25 + i))))) (nI (i + 1)) _
    have := ok.ch (k := i) (by omega)
    rw [e_X6_inchesNow_4]
    by_cases q : i + 1 = S 5 24
    · rw [if_pos q]
      simp (disch := omega) only [lit_nI, m_s k, m_st k, nI_add, le_nI, nm1_eq, in_iff, cl_nI, if_pos, if_neg]
    · rw [if_neg q]
      simp (disch := omega) only [lit_nI, m_s k, m_st k, nI_add, le_nI, nm1_eq, in_iff, cl_nI, if_pos, if_neg]
  · show w_X6_inchesNow_4 _ _ _ = _
    rw [e_X6_inchesNow_4, m_s k _ (by omega), if_pos (Int32.le_refl _)]
    unfold inc
    by_cases h : S 5 24 = 0
    · rw [if_pos h, h]; rfl
    · rw [if_neg h]
      obtain ⟨j, e⟩ : ∃ j, S 5 24 = j + 1 := ⟨S 5 24 - 1, by omega⟩
      rw [e]
      show some (some (Value.int (nI (sumN _ j + (if j + 1 = j + 1 then _ else _)))), _) = _
      rw [if_pos rfl, Nat.add_comm, Nat.add_sub_cancel]
      congr 6
      apply sumN_e
      intro i hi
      rw [if_neg (by omega)]
theorem m_chained (k : Ml mi ml S T) (ok : Ok S) : f_X6_chained [.ref 99] (hG mi ml pm) = some (some (.int (nI (chaN S (S 5 24)))), hG mi ml pm) := by
  have F7 := ok.F7
  have n7 := ok.n7
  rw [e_X6_chained]
  refine Eq.trans (lpG (w := fun x i => w_X6_chained_4 x i (hG mi ml pm)) (fun i => nI (chaN S i)) (n := S 5 24) ?_ 0 (by omega)) ?_
  · intro i hi
    show w_X6_chained_4 _ (nI i) _ = w_X6_chained_4 (nI (chaN S i ||| 2 ^ S 5 (25 + i))) (nI (i + 1)) _
    have c := ok.ch (k := i) (by omega)
    rw [e_X6_chained_4, ← or_t _ (chaN_b (fun k hk => by have := ok.ch (k := k) (by omega); omega)) _ (by omega)]
    simp (disch := omega) only [lit_nI, m_s k, nI_add, le_nI, in_iff, cl_nI, if_pos, if_neg]
  · show w_X6_chained_4 _ _ _ = _
    rw [e_X6_chained_4, m_s k _ (by omega), if_pos (Int32.le_refl _)]
theorem m_can (k : Ml mi ml S T) (ok : Ok S) {f : Nat} (hf : f < S 0 1) : f_X6_canThread [.ref 99, .int (nI f)] (hG mi ml pm) = some (some (.int (b01 (fit S f))), hG mi ml pm) := by
  have F7 := ok.F7
  have n7 := ok.n7
  have h24 : ∀ t : Bool, w_X6_canThread_24 (nI f) (b01 t) (hG mi ml pm) = some (some (.int (b01 (t && (decide (S 5 24 = 0) || tak S (S 5 (25 + (S 5 24 - 1))) f)))), hG mi ml pm) := by
    intro t
    rw [e_X6_canThread_24, m_s k 24 (by omega), if_pos (b01_01 t)]
    by_cases h : S 5 24 = 0
    · rw [if_pos (by rw [h]; rfl), decide_eq_true h, Bool.true_or, Bool.and_true]
    · rw [if_neg (nz h (by omega)), decide_eq_false h, Bool.false_or]
      have hl := ok.ch (k := S 5 24 - 1) (by omega)
      have e : (25 : Int32) + nI (S 5 24) - 1 = nI (25 + (S 5 24 - 1)) := by
        rw [lit_nI 25, lit_nI 1, nI_add, pk_sub (by omega)]; congr 1; omega
      rw [e, if_pos (in_nI (by omega) (by omega)), cl_nI (by omega), m_s k _ (by omega)]
      cases t with
      | false => rfl
      | true =>
        rw [if_neg (by decide), m_isSlit k ok (by omega), bI_i, e_X6_canThread_64, Bool.true_and]
        unfold tak
        cases slt S (S 5 (25 + (S 5 24 - 1))) with
        | false => rfl
        | true =>
          rw [if_neg (by decide), m_opn k ok hl, bI_i, e_X6_canThread_72]
          cases opn S (S 5 (25 + (S 5 24 - 1))) with
          | true => rfl
          | false =>
            have o := ok.pl (f := S 5 (25 + (S 5 24 - 1))) (by omega)
            have o2 := ok.th hf
            rw [if_pos (by decide)]
            simp (disch := omega) only [lit_nI, in_iff, nI_add, cl_nI, m_s k, m_th k, lt_nI, if_pos]
            by_cases q : S 5 (17 + S 5 (25 + (S 5 24 - 1))) < S 2 f
            · rw [if_pos q, decide_eq_false (by omega)]; rfl
            · rw [if_neg q, decide_eq_true (by omega)]; rfl
  rw [e_X6_canThread, m_isPicked k ok (by omega), bI_i, e_X6_canThread_5]
  unfold fit
  cases (S 5 2).testBit f with
  | false => rw [if_pos (by decide), e_X6_canThread_23]; exact h24 false
  | true =>
    rw [if_neg (by decide), m_chained k ok, bI_i, e_X6_canThread_12]
    have hb := bit_0 (p := chaN S (S 5 24)) (f := f) (chaN_b (fun k hk => by have := ok.ch (k := k) (by omega); omega)) (by omega)
    rw [chaN_t] at hb
    cases ha : amg S f (S 5 24) with
    | false => rw [if_pos (hb.mpr ha)]; exact h24 true
    | true => rw [if_neg (fun q => by rw [hb.mp q] at ha; cases ha), e_X6_canThread_23]; exact h24 false
theorem m_now21 (k : Ml mi ml S T) (ok : Ok S) (a : Int32) : w_X6_now_21 a 0 0 (hG mi ml pm) = w_X6_now_21 a (nI (canN S (S 0 1))) (nI (S 0 1)) (hG mi ml pm) := by
  have F7 := ok.F7
  refine Eq.trans (lpG (w := fun x i => w_X6_now_21 a x i (hG mi ml pm)) (fun i => nI (canN S i)) (n := S 0 1) ?_ 0 (by omega)) rfl
  intro i hi
  show w_X6_now_21 _ _ (nI i) _ = w_X6_now_21 _ _ (nI (i + 1)) _
  rw [e_X6_now_21, m_F k, if_neg (fun q => absurd ((le_nI (by omega) (by omega)).mp q) (by omega)), m_can k ok hi, bI_i, e_X6_now_37, or_t _ (canN_b (by omega)) i (by omega), nI_1, Int32.or_zero]
  show _ = w_X6_now_21 _ (nI (if fit S i then canN S i ||| 2 ^ i else canN S i)) _ _
  cases fit S i <;> rfl
end V2
theorem b_now {S : pS} (ok : Ok S) (T : Int64) (a : Int32) : ∃ v S' T', Both (f_X5_now [.ref 0, .int a]) (f_X6_now [.ref 99, .int a]) S T v S' T' := by
  by_cases h : wi3 a 0 6 = 0
  · have n0 : ∀ d, d ≤ 6 → ¬ a = nI d := by
      rintro d hd rfl
      rcases (show d = 0 ∨ d = 1 ∨ d = 2 ∨ d = 3 ∨ d = 4 ∨ d = 5 ∨ d = 6 by omega) with rfl | rfl | rfl | rfl | rfl | rfl | rfl <;> exact absurd h (by decide)
    refine ⟨-1, S, T, Both_q ok (fun mi ml pm k => ?_) (fun mi ml pm k => ?_)⟩
    · rw [e_X5_now, if_neg (show ¬ a = 0 from n0 0 (by omega)), if_neg (show ¬ a = 1 from n0 1 (by omega)), if_neg (show ¬ a = 2 from n0 2 (by omega)), if_neg (show ¬ a = 3 from n0 3 (by omega)), if_neg (show ¬ a = 4 from n0 4 (by omega)), if_neg (show ¬ a = 5 from n0 5 (by omega)), if_neg (show ¬ a = 6 from n0 6 (by omega))]
    · rw [e_X6_now, x6_in, bI_i, e_X6_now_12, if_pos h]
  · obtain ⟨d, -, hd, rfl⟩ := nat_of (b := 0) (n := 6) (by omega) h (by omega)
    refine ⟨if d = 0 then nI (S 5 0) else if d = 1 then nI (S 5 1) else if d = 2 then nI (S 5 2) else if d = 3 then nI (S 5 24) else if d = 4 then nI (inc S) else if d = 5 then nI (canN S (S 0 1)) else nI (S 0 3), S, T, Both_q ok (fun mi ml pm k => ?_) (fun mi ml pm k => ?_)⟩
    · rw [e_X5_now, c_mi k, c_wa k, c_pk k, c_n k, c_kn k, c_inches k ok, c_can k ok, bI_i, bI_i, e_X5_now_80, e_X5_now_85]
      rcases (show d = 0 ∨ d = 1 ∨ d = 2 ∨ d = 3 ∨ d = 4 ∨ d = 5 ∨ d = 6 by omega) with rfl | rfl | rfl | rfl | rfl | rfl | rfl <;> rfl
    · have k' := Ml_th (0 : Int32) k
      rw [e_X6_now, x6_in, bI_i, e_X6_now_12, if_neg h]
      generalize hw mi 99 0 0 = m at k' ⊢
      rw [m_now21 k' ok, e_X6_now_21, m_F k', if_pos (Int32.le_refl _), m_inches k' ok, bI_i, e_X6_now_93, m_kn k']
      rcases (show d = 0 ∨ d = 1 ∨ d = 2 ∨ d = 3 ∨ d = 4 ∨ d = 5 ∨ d = 6 by omega) with rfl | rfl | rfl | rfl | rfl | rfl | rfl <;> simp (disch := omega) only [lit_nI, le_nI, eq_nI, in_iff, cl_nI, m_s k', if_pos, if_neg, reduceIte] <;> rfl
