/-! weakest, hung, inTime, ring, loves, bestSlit -/
theorem n9 {x : Nat} (h : x ≤ 100000) : ¬ nI x = (-9 : Int32) := fun q => by
  have e := congrArg Int32.toInt q
  rw [nI_toInt (by omega), show (-9 : Int32).toInt = -9 from by decide] at e
  omega
theorem nm1_le' {n i : Nat} (hn : n ≤ 100000) (hi : i ≤ 100000) : nI n - 1 ≤ nI i ↔ n ≤ i + 1 := nm1_le hn hi
theorem nle {a b : Nat} (h : b < a) (ha : a ≤ 1000000000) : ¬ nI a ≤ nI b := fun q => absurd ((le_nI (by omega) (by omega)).mp q) (by omega)
theorem yle {a b : Nat} (h : a ≤ b) (hb : b ≤ 1000000000) : nI a ≤ nI b := (le_nI (by omega) (by omega)).mpr h
theorem nlt {a b : Nat} (h : b ≤ a) (ha : a ≤ 1000000000) : ¬ nI a < nI b := fun q => absurd ((lt_nI (by omega) (by omega)).mp q) (by omega)
theorem ylt {a b : Nat} (h : a < b) (hb : b ≤ 1000000000) : nI a < nI b := (lt_nI (by omega) (by omega)).mpr h
theorem nm1_n {n i : Nat} (h : i + 1 < n) (hn : n ≤ 100000) : ¬ nI n - 1 ≤ nI i := fun q => absurd ((nm1_le' (by omega) (by omega)).mp q) (by omega)
theorem nm1_y {n i : Nat} (h : n ≤ i + 1) (hi : i ≤ 90000) : nI n - 1 ≤ nI i := (nm1_le' (by omega) (by omega)).mpr h
/-- the first of the least among the first m -/
def wk (h : Nat → Nat) : Nat → Nat
  | 0 => 0
  | m + 1 => if h m < h (wk h m) then m else wk h m
theorem wk_lt {h : Nat → Nat} {m : Nat} (hm : 0 < m) : wk h m < m := by
  induction m with
  | zero => omega
  | succ m ih =>
    show (if h m < h (wk h m) then m else wk h m) < m + 1
    split
    · omega
    · rcases Nat.eq_zero_or_pos m with e | e
      · rw [e]; exact (by decide : (0 : Nat) < 0 + 1)
      · have := ih e; omega
theorem wk_min {h : Nat → Nat} {m k : Nat} (hk : k < m) : h (wk h m) ≤ h k := by
  induction m with
  | zero => omega
  | succ m ih =>
    show h (if h m < h (wk h m) then m else wk h m) ≤ h k
    by_cases e : k = m
    · rw [e]; split <;> omega
    · have := ih (by omega)
      split <;> omega
/-- the link j at a later minute -/
def hlk (S : pS) (n j : Nat) : Nat := holS S (S 0 2) (S 5 (25 + j)) (S 5 (3 + S 5 (25 + j)) + n)
theorem hlk_b {S : pS} (ok : Ok S) {n j : Nat} (hj : j < S 5 24) : hlk S n j ≤ 90 := by
  have h := hol_le (S 2 (S 5 (25 + j))) (S 3 (S 5 (25 + j))) (S 0 2) (S 5 (10 + S 5 (25 + j))) (S 5 (17 + S 5 (25 + j))) (S 5 (3 + S 5 (25 + j)) + n)
  have := ok.th (ok.ch hj)
  unfold hlk holS
  omega
theorem lpH {σ α : Type} {w : σ → Int32 → α} (g : Nat → σ) {a n : Nat} (hs : ∀ i, a ≤ i → i < n → w (g i) (nI i) = w (g (i + 1)) (nI (i + 1))) (h : a ≤ n) : w (g a) (nI a) = w (g n) (nI n) := by
  obtain ⟨d, rfl⟩ : ∃ d, n = a + d := ⟨n - a, by omega⟩
  clear h
  induction d with
  | zero => rfl
  | succ d ih =>
    rw [ih (fun i h1 h2 => hs i h1 (by omega)), hs (a + d) (by omega) (by omega)]; rfl
/-- the load behind: thick by place, a set of hung ones -/
def lod (t : Nat → Nat) (p : Nat) : Nat → Nat → Nat
  | 0, _ => 0
  | d + 1, k => if p.testBit k then 0 else t k + lod t p d (k + 1)
def tch (S : pS) (k : Nat) : Nat := S 2 (S 5 (25 + k))
theorem lod_b {t : Nat → Nat} {p : Nat} : ∀ (d k : Nat), (∀ i, i < k + d → t i ≤ 9) → lod t p d k ≤ 9 * d := by
  intro d
  induction d with
  | zero => intro k _; exact Nat.zero_le _
  | succ d ih =>
    intro k h
    show (if p.testBit k then 0 else t k + lod t p d (k + 1)) ≤ _
    split
    · omega
    · have h1 := ih (k + 1) (fun i hi => h i (by omega))
      have h2 := h k (by omega)
      omega
theorem Ok.tch {S : pS} (ok : Ok S) {k : Nat} (h : k < S 5 24) : tch S k ≤ 9 := (ok.th (ok.ch h)).2
section V3
variable {mi : hM} {ml : Nat → Nat → Int64} {pm : Nat → Option Nat} {S : pS} {T : Int64}
theorem c_weakestLink (k : Cl mi ml pm S T) (ok : Ok S) {n : Nat} (hn : n ≤ 400) : f_X5_weakestLink [.ref 0, .int (nI n)] (hG mi ml pm) = some (some (.int (if S 5 24 - 1 = 0 then -9 else nI (wk (hlk S n) (S 5 24 - 1)))), hG mi ml pm) := by
  have F7 := ok.F7
  have n7 := ok.n7
  rw [e_X5_weakestLink]
  by_cases h : S 5 24 - 1 = 0
  · rw [if_pos h, e_X5_weakestLink_8, c_lc k ok, bI_i, h, e_X5_weakestLink_17, if_pos (by decide)]
  · rw [if_neg h]
    have e0 : w_X5_weakestLink_8 (nI n) (-9) (nI 0) (nI 0) (hG mi ml pm) = w_X5_weakestLink_8 (nI n) (nI (wk (hlk S n) 1)) (nI (hlk S n (wk (hlk S n) 1))) (nI 1) (hG mi ml pm) := by
      have c := ok.ch (k := 0) (by omega)
      rw [e_X5_weakestLink_8, c_lc k ok, bI_i, e_X5_weakestLink_17, if_neg (fun q => absurd ((le_nI (by omega) (by omega)).mp q) (by omega)), if_pos (by decide), cl_nI (by omega), c_ch k 0 (by omega), c_holdsLater k ok c hn, bI_i, e_X5_weakestLink_35, if_pos rfl]
      have e : wk (hlk S n) 1 = 0 := by
        show (if hlk S n 0 < hlk S n 0 then 0 else 0) = 0
        split <;> rfl
      rw [e]; rfl
    refine Eq.trans e0 (Eq.trans (lpH (w := fun x i => w_X5_weakestLink_8 (nI n) (nI x) (nI (hlk S n x)) i (hG mi ml pm)) (fun i => wk (hlk S n) i) (a := 1) (n := S 5 24 - 1) ?_ (by omega)) ?_)
    · intro i h1 hi
      show w_X5_weakestLink_8 _ _ _ (nI i) _ = w_X5_weakestLink_8 _ (nI (if hlk S n i < hlk S n (wk (hlk S n) i) then i else wk (hlk S n) i)) (nI (hlk S n (if hlk S n i < hlk S n (wk (hlk S n) i) then i else wk (hlk S n) i))) (nI (i + 1)) _
      have c := ok.ch (k := i) (by omega)
      have b1 := hlk_b ok (n := n) (j := i) (by omega)
      have wl := wk_lt (h := hlk S n) (m := i) (by omega)
      have b2 := hlk_b ok (n := n) (j := wk (hlk S n) i) (by omega)
      rw [e_X5_weakestLink_8, c_lc k ok, bI_i, e_X5_weakestLink_17, if_neg (fun q => absurd ((le_nI (by omega) (by omega)).mp q) (by omega)), if_pos (in_nI (by omega) (by omega)), cl_nI (by omega), c_ch k i (by omega), c_holdsLater k ok c hn, bI_i, e_X5_weakestLink_35, if_neg (n9 (by omega)), nI_1]
      change (if nI (hlk S n (wk (hlk S n) i)) ≤ nI (hlk S n i) then _ else w_X5_weakestLink_8 _ _ (nI (hlk S n i)) _ _) = _
      by_cases q : hlk S n i < hlk S n (wk (hlk S n) i)
      · rw [if_pos q, if_neg (fun q' => absurd ((le_nI (by omega) (by omega)).mp q') (by omega))]
      · rw [if_neg q, if_pos ((le_nI (by omega) (by omega)).mpr (by omega))]
    · show w_X5_weakestLink_8 _ _ _ _ _ = _
      rw [e_X5_weakestLink_8, c_lc k ok, bI_i, e_X5_weakestLink_17, if_pos (Int32.le_refl _)]
theorem m_hlk (k : Ml mi ml S T) (ok : Ok S) {j : Nat} (hj : j < S 5 24) : f_X6_holds [.ref 99, .int (nI (S 5 (25 + j)))] (hG mi ml pm) = some (some (.int (nI (hlk S 0 j))), hG mi ml pm) := m_holds k ok (ok.ch hj)
theorem c_hlk (k : Cl mi ml pm S T) (ok : Ok S) {j : Nat} (hj : j < S 5 24) : f_X5_holds [.ref 0, .int (nI (S 5 (25 + j)))] (hG mi ml pm) = some (some (.int (nI (hlk S 0 j))), hG mi ml pm) := c_holds k ok (ok.ch hj)
theorem m_weakest21 (k : Ml mi ml S T) (ok : Ok S) (a : Int32) : w_X6_weakest_21 a (-9) 0 (hG mi ml pm) = w_X6_weakest_21 a (if S 5 24 - 1 = 0 then -9 else nI (wk (hlk S 0) (S 5 24 - 1))) (nI (S 5 24 - 1)) (hG mi ml pm) := by
  have F7 := ok.F7
  have n7 := ok.n7
  by_cases h : S 5 24 - 1 = 0
  · rw [if_pos h, h]; rfl
  · rw [if_neg h]
    have e0 : w_X6_weakest_21 a (-9) (nI 0) (hG mi ml pm) = w_X6_weakest_21 a (nI (wk (hlk S 0) 1)) (nI 1) (hG mi ml pm) := by
      rw [e_X6_weakest_21, m_s k 24 (by omega), if_neg (fun q => absurd ((nm1_le' (by omega) (by omega)).mp q) (by omega)), if_pos rfl]
      have e : wk (hlk S 0) 1 = 0 := by
        show (if hlk S 0 0 < hlk S 0 0 then 0 else 0) = 0
        split <;> rfl
      rw [e]; rfl
    refine Eq.trans e0 (lpH (w := fun x i => w_X6_weakest_21 a (nI x) i (hG mi ml pm)) (fun i => wk (hlk S 0) i) (a := 1) (n := S 5 24 - 1) ?_ (by omega))
    intro i h1 hi
    show w_X6_weakest_21 _ _ (nI i) _ = w_X6_weakest_21 _ (nI (if hlk S 0 i < hlk S 0 (wk (hlk S 0) i) then i else wk (hlk S 0) i)) (nI (i + 1)) _
    have b1 := hlk_b ok (n := 0) (j := i) (by omega)
    have wl := wk_lt (h := hlk S 0) (m := i) (by omega)
    have b2 := hlk_b ok (n := 0) (j := wk (hlk S 0) i) (by omega)
    rw [e_X6_weakest_21, m_s k 24 (by omega), if_neg (fun q => absurd ((nm1_le' (by omega) (by omega)).mp q) (by omega)), if_neg (n9 (by omega)), lit_nI 25, nI_add, if_pos (in_nI (by omega) (by omega)), cl_nI (by omega), m_s k _ (by omega), m_hlk k ok (by omega), bI_i, e_X6_weakest_53, lit_nI 25, nI_add, if_pos (in_nI (by omega) (by omega)), cl_nI (by omega), m_s k _ (by omega), m_hlk k ok (by omega), bI_i, e_X6_weakest_66, nI_1]
    by_cases q : hlk S 0 i < hlk S 0 (wk (hlk S 0) i)
    · rw [if_pos q, if_neg (fun q' => absurd ((le_nI (by omega) (by omega)).mp q') (by omega))]
    · rw [if_neg q, if_pos ((le_nI (by omega) (by omega)).mpr (by omega))]
theorem m_load (k : Ml mi ml S T) (ok : Ok S) {p j : Nat} (hp : p < 128) (hj : j + 1 ≤ S 5 24) : f_X6_load [.ref 99, .int (nI j), .int (nI p)] (hG mi ml pm) = some (some (.int (nI (lod (tch S) p (S 5 24 - 1 - j) (j + 1)))), hG mi ml pm) := by
  have F7 := ok.F7
  have n7 := ok.n7
  have key : ∀ d i acc, i + d = S 5 24 → w_X6_load_7 (nI j) (nI p) (nI acc) (nI i) (hG mi ml pm) = some (some (.int (nI (acc + lod (tch S) p d i))), hG mi ml pm) := by
    intro d
    induction d with
    | zero =>
      intro i acc hi
      rw [e_X6_load_7, m_s k 24 (by omega), if_pos ((le_nI (by omega) (by omega)).mpr (by omega))]; rfl
    | succ d ih =>
      intro i acc hi
      rw [e_X6_load_7, m_s k 24 (by omega), if_neg (fun q' => absurd ((le_nI (by omega) (by omega)).mp q') (by omega))]
      show _ = some (some (Value.int (nI (acc + (if p.testBit i then 0 else tch S i + lod (tch S) p d (i + 1))))), _)
      cases hb : p.testBit i with
      | true => rw [if_neg (fun q => by rw [(bit_0 hp (by omega)).mp q] at hb; cases hb)]; rfl
      | false =>
        have c := ok.ch (k := i) (by omega)
        rw [if_pos ((bit_0 hp (by omega)).mpr hb)]
        simp (disch := omega) only [lit_nI, nI_add, in_iff, cl_nI, m_s k, m_th k, if_pos]
        rw [ih (i + 1) _ (by omega)]
        show some (some (Value.int (nI (acc + tch S i + _))), _) = _
        rw [Nat.add_assoc]; rfl
  rw [e_X6_load, nI_1, show (0 : Int32) = nI 0 from rfl, key (S 5 24 - 1 - j) (j + 1) 0 (by omega), Nat.zero_add]
end V3
theorem b_weakest {S : pS} (ok : Ok S) (T : Int64) (a : Int32) : ∃ v S' T', Both (f_X5_weakest [.ref 0, .int a]) (f_X6_weakest [.ref 99, .int a]) S T v S' T' := by
  have F7 := ok.F7
  have n7 := ok.n7
  by_cases h : wi3 a 0 1 = 0
  · refine ⟨-1, S, T, Both_q ok (fun mi ml pm k => ?_) (fun mi ml pm k => ?_)⟩
    · rw [e_X5_weakest, x5_isWithin, bI_i, e_X5_weakest_6, if_pos h]
    · rw [e_X6_weakest, x6_in, bI_i, e_X6_weakest_11, if_pos h]
  · refine ⟨if S 5 24 - 1 = 0 then -9 else if a = 0 then nI (wk (hlk S 0) (S 5 24 - 1)) else nI (hlk S 0 (wk (hlk S 0) (S 5 24 - 1))), S, T, Both_q ok (fun mi ml pm k => ?_) (fun mi ml pm k => ?_)⟩
    · have w0 := c_weakestLink k ok (n := 0) (by omega)
      rw [show nI 0 = (0 : Int32) from rfl] at w0
      rw [e_X5_weakest, x5_isWithin, bI_i, e_X5_weakest_6, if_neg h, w0, bI_i, e_X5_weakest_16]
      by_cases q : S 5 24 - 1 = 0
      · rw [if_pos q, if_pos rfl, if_pos q]
      · have wl := wk_lt (h := hlk S 0) (m := S 5 24 - 1) (by omega)
        rw [if_neg q, if_neg q, if_neg (n9 (by omega))]
        by_cases q0 : a = 0
        · rw [if_pos q0, if_pos q0]
        · rw [if_neg q0, if_neg q0, if_pos (in_nI (by omega) (by omega)), cl_nI (by omega), c_ch k _ (by omega), c_hlk k ok (by omega), bI_i, e_X5_weakest_47]
    · have k' := Ml_th (0 : Int32) k
      rw [e_X6_weakest, x6_in, bI_i, e_X6_weakest_11, if_neg h]
      generalize hw mi 99 0 0 = m at k' ⊢
      rw [m_weakest21 k' ok, e_X6_weakest_21, m_s k' 24 (by omega), if_pos ((nm1_le' (by omega) (by omega)).mpr (by omega))]
      by_cases q : S 5 24 - 1 = 0
      · rw [if_pos q, if_pos rfl, if_pos q]
      · have wl := wk_lt (h := hlk S 0) (m := S 5 24 - 1) (by omega)
        rw [if_neg q, if_neg q, if_neg (n9 (by omega))]
        by_cases q0 : a = 0
        · rw [if_pos q0, if_pos q0]
        · rw [if_neg q0, if_neg q0, lit_nI 25, nI_add, if_pos (in_nI (by omega) (by omega)), cl_nI (by omega), m_s k' _ (by omega), m_hlk k' ok (by omega), bI_i, e_X6_weakest_108]
