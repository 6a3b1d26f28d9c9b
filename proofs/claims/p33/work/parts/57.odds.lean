/-! odds -/
def oW (p : Int32) : Nat → Nat → Int32
  | 0, s => if s = 0 then 1 else 0
  | n + 1, 0 => oW p n 0 * (10 - p)
  | n + 1, s + 1 => oW p n (s + 1) * (10 - p) + oW p n s * p
def sumI (g : Nat → Int32) : Nat → Int32
  | 0 => 0
  | n + 1 => sumI g n + g n
def oL : Nat → Int32
  | 0 => 1
  | n + 1 => oL n * 10
def o2 (x : Int32 × Int32) : Int32 × Int32 := if x.1 - x.1 / 2 * 2 = 0 then (if x.2 - x.2 / 2 * 2 = 0 then (x.1 / 2, x.2 / 2) else x) else x
def o5 (x : Int32 × Int32) : Int32 × Int32 := if x.1 - x.1 / 5 * 5 = 0 then (if x.2 - x.2 / 5 * 5 = 0 then (x.1 / 5, x.2 / 5) else x) else x
def oR (x : Int32 × Int32) : Nat → Int32 × Int32
  | 0 => x
  | n + 1 => o5 (o2 (oR x n))
def oPw (b : Int32) : Nat → Int32
  | 0 => 1
  | n + 1 => oPw b n * b
def oCh (n : Nat) : Nat → Int32
  | 0 => 1
  | e + 1 => (oCh n e * (nI n - nI e)) / (nI e + 1)
def oG : Nat → Int32 → Int32 → Int32
  | 0, _, _ => 0
  | f + 1, x, y => if y = 0 then x else oG f y (x - x / y * y)
def oT : Nat → Int32 → Int32 → Bool
  | 0, _, _ => false
  | f + 1, x, y => if y = 0 then true else oT f y (x - x / y * y)
def oU (p n k : Nat) : Int32 := sumI (oW (nI p) n) (k + 1)
def oM (p n k : Nat) : Int32 := sumI (fun e => (oCh n e * oPw (nI p) e) * oPw (10 - nI p) (n - e)) (min n k + 1)
def oC (p n k : Nat) : Bool := oT 30 (oM p n k) (oPw 10 n) && (decide (¬ oG 30 (oM p n k) (oPw 10 n) = 0) && (decide (oM p n k / oG 30 (oM p n k) (oPw 10 n) = (oR (oU p n k, oL n) n).1) && decide (oPw 10 n / oG 30 (oM p n k) (oPw 10 n) = (oR (oU p n k, oL n) n).2)))
theorem oC_t : ∀ n, n < 7 → ∀ p, p < 11 → ∀ k, k < 8 → oC p n k = true := by decide +kernel
/-- scratch cells do not matter -/
theorem Cl_fx {mi : hM} {ml : Nat → Nat → Int64} {pm : Nat → Option Nat} {S : pS} {T : Int64} (k : Cl mi ml pm S T) {m1 : hM} (h : ∀ c, c < 20 ∨ 23 < c → m1 c = mi c) : Cl m1 ml pm S T := by
  obtain ⟨t, d, nn, u, kk, e, tr⟩ := k
  exact ⟨ClT_fr (by rw [h 1 (by omega)]) (h 2 (by omega)) rfl rfl t, ClD_fr (fun c _ _ => h c (by omega)) rfl rfl rfl rfl rfl d, Cm_fr (fun c _ _ => h c (by omega)) nn, ClU_fr (by rw [h 0 (by omega)]) (fun c _ _ => h c (by omega)) rfl (fun i _ => rfl) u, ClK_fr (h 18 (by omega)) (fun c _ _ => h c (by omega)) rfl (fun i _ => rfl) kk, ClE_fr (by rw [h 0 (by omega)]) (fun c _ _ => h c (by omega)) rfl e, tr⟩
theorem Ml_fx {mi : hM} {ml : Nat → Nat → Int64} {S : pS} {T : Int64} (k : Ml mi ml S T) {m1 : hM} (h : ∀ c, c ≠ 111 → c ≠ 112 → m1 c = mi c) : Ml m1 ml S T := by
  unfold Ml Mm at k ⊢
  rw [h 99 (by omega) (by omega), h 100 (by omega) (by omega), h 101 (by omega) (by omega), h 102 (by omega) (by omega), h 103 (by omega) (by omega), h 104 (by omega) (by omega), h 105 (by omega) (by omega), h 106 (by omega) (by omega), h 107 (by omega) (by omega), h 108 (by omega) (by omega)]
  exact k
section O1
variable (ml : Nat → Nat → Int64) (pm : Nat → Option Nat) (p n : Nat)
theorem cw_1 (hn : n ≤ 7) : ∀ r i (m : hM), i + r = 8 → (∀ s, s < i → m 23 s = oW (nI p) 0 s) → ∃ m1 : hM, w_X5_countWays_2 (nI p) (nI n) (nI i) (hG m ml pm) = w_X5_countWays_31 (nI p) (nI n) 0 (hG m1 ml pm) ∧ (∀ c, c ≠ 23 → m1 c = m c) ∧ ∀ s, s < 8 → m1 23 s = oW (nI p) 0 s := by
  intro r
  induction r with
  | zero =>
    intro i m hi h
    rw [e_X5_countWays_2, if_pos (show (7 : Int32) < nI i from ylt (a := 7) (by omega) (by omega))]
    exact ⟨m, rfl, fun _ _ => rfl, fun s hs => h s (by omega)⟩
  | succ r ih =>
    intro i m hi h
    rw [e_X5_countWays_2, if_neg (show ¬ (7 : Int32) < nI i from fun q => absurd ((lt_nI (a := 7) (by omega) (by omega)).mp q) (by omega)), nI_1]
    have nx : ∀ v, v = oW (nI p) 0 i → ∃ m1 : hM, w_X5_countWays_2 (nI p) (nI n) (nI (i + 1)) (hG (hw m 23 i v) ml pm) = w_X5_countWays_31 (nI p) (nI n) 0 (hG m1 ml pm) ∧ (∀ c, c ≠ 23 → m1 c = m c) ∧ ∀ s, s < 8 → m1 23 s = oW (nI p) 0 s := by
      rintro v rfl
      obtain ⟨m1, r1, r2, r3⟩ := ih (i + 1) (hw m 23 i (oW (nI p) 0 i)) (by omega) (fun s hs => by
        by_cases q : s = i
        · rw [q, hw_c]
        · rw [hw_k _ _ _ q]; exact h s (by omega))
      exact ⟨m1, r1, fun c hc => by rw [r2 c hc, hw_oo _ _ _ hc], r3⟩
    by_cases z : i = 0
    · rw [if_pos (show nI i = 0 by rw [z]; rfl), if_pos (in_nI (by omega) (by omega)), cl_nI (by omega)]
      exact nx _ (by rw [z]; rfl)
    · rw [if_neg (nz z (by omega)), if_pos (in_nI (by omega) (by omega)), cl_nI (by omega)]
      refine nx _ ?_
      show 0 = if i = 0 then (1 : Int32) else 0
      rw [if_neg z]
theorem cw_3 (i : Nat) : ∀ j (m : hM), j ≤ 7 → (∀ s, s < 8 → m 23 s = if j < s then oW (nI p) (i + 1) s else oW (nI p) i s) → ∃ m1 : hM, w_X5_countWays_40 (nI p) (nI n) (nI i) (nI j) (hG m ml pm) = w_X5_countWays_31 (nI p) (nI n) (nI (i + 1)) (hG m1 ml pm) ∧ (∀ c, c ≠ 23 → m1 c = m c) ∧ ∀ s, s < 8 → m1 23 s = oW (nI p) (i + 1) s := by
  intro j
  induction j with
  | zero =>
    intro m _ h
    rw [e_X5_countWays_40, if_pos (by decide), nI_1]
    refine ⟨_, rfl, fun c hc => hw_oo _ _ _ hc, fun s hs => ?_⟩
    by_cases q : s = 0
    · rw [q, hw_c, h 0 (by omega), if_neg (by omega)]; rfl
    · rw [hw_k _ _ _ q, h s hs, if_pos (by omega)]
  | succ j ih =>
    intro m hj h
    rw [e_X5_countWays_40, if_neg (npos (by omega) (by omega)), nm_s, if_pos (in_nI (by omega) (by omega)), if_pos (in_nI (by omega) (by omega)), if_pos (in_nI (by omega) (by omega)), nm_a, nm_s, cl_nI (by omega), cl_nI (by omega)]
    obtain ⟨m1, r1, r2, r3⟩ := ih (hw m 23 (j + 1) (m 23 (j + 1) * (10 - nI p) + m 23 j * nI p)) (by omega) (fun s hs => by
      by_cases q : s = j + 1
      · rw [q, hw_c, if_pos (by omega), h _ (by omega), h _ (by omega), if_neg (by omega), if_neg (by omega)]; rfl
      · rw [hw_k _ _ _ q, h s hs]
        by_cases q2 : j < s
        · rw [if_pos q2, if_pos (by omega)]
        · rw [if_neg q2, if_neg (by omega)])
    exact ⟨m1, r1, fun c hc => by rw [r2 c hc, hw_oo _ _ _ hc], r3⟩
theorem cw_2 (hn : n ≤ 7) : ∀ r i (m : hM), i + r = n → (∀ s, s < 8 → m 23 s = oW (nI p) i s) → ∃ m1 : hM, w_X5_countWays_31 (nI p) (nI n) (nI i) (hG m ml pm) = some (none, hG m1 ml pm) ∧ (∀ c, c ≠ 23 → m1 c = m c) ∧ ∀ s, s < 8 → m1 23 s = oW (nI p) n s := by
  intro r
  induction r with
  | zero =>
    intro i m hi h
    rw [e_X5_countWays_31, if_pos (yle (by omega) (by omega))]
    refine ⟨m, rfl, fun _ _ => rfl, ?_⟩
    rw [← show i = n by omega]; exact h
  | succ r ih =>
    intro i m hi h
    rw [e_X5_countWays_31, if_neg (nle (by omega) (by omega)), lit_nI 7]
    obtain ⟨m1, r1, r2, r3⟩ := cw_3 ml pm p n i 7 m (by omega) (fun s hs => by rw [if_neg (by omega)]; exact h s hs)
    obtain ⟨m2, s1, s2, s3⟩ := ih (i + 1) m1 (by omega) r3
    exact ⟨m2, by rw [r1, s1], fun c hc => by rw [s2 c hc, r2 c hc], s3⟩
theorem c_countWays (hn : n ≤ 7) (m : hM) : ∃ m1 : hM, f_X5_countWays [.ref 0, .int (nI p), .int (nI n)] (hG m ml pm) = some (none, hG m1 ml pm) ∧ (∀ c, c ≠ 23 → m1 c = m c) ∧ ∀ s, s < 8 → m1 23 s = oW (nI p) n s := by
  obtain ⟨m1, r1, r2, r3⟩ := cw_1 ml pm p n hn 8 0 m (by omega) (fun s hs => by omega)
  obtain ⟨m2, s1, s2, s3⟩ := cw_2 ml pm p n hn n 0 m1 (by omega) r3
  exact ⟨m2, by rw [e_X5_countWays, show (0 : Int32) = nI 0 from rfl, r1, show (0 : Int32) = nI 0 from rfl, s1], fun c hc => by rw [s2 c hc, r2 c hc], s3⟩
theorem c_odds47 {k : Nat} (w : Int32) (hk : k ≤ 7) (hn : n ≤ 7) {m : hM} (h : ∀ s, s < 8 → m 23 s = oW (nI p) n s) : w_X5_odds_47 (nI p) (nI k) w (nI n) (hG m ml pm) = some (some (.int (if w = 0 then (oR (oU p n k, oL n) n).1 else (oR (oU p n k, oL n) n).2)), hG m ml pm) := by
  rw [e_X5_odds_47]
  refine Eq.trans (lpG (w := fun x i => w_X5_odds_53 (nI p) (nI k) w (nI n) x i (hG m ml pm)) (fun i => sumI (oW (nI p) n) i) (n := k + 1) ?_ 0 (by omega)) ?_
  · intro i hi
    show w_X5_odds_53 _ _ _ _ _ (nI i) _ = w_X5_odds_53 _ _ _ _ _ (nI (i + 1)) _
    rw [e_X5_odds_53, if_neg (nlt (by omega) (by omega)), if_pos (in_nI (by omega) (by omega)), cl_nI (by omega), h i (by omega), nI_1]; rfl
  show w_X5_odds_53 _ _ _ _ (oU p n k) (nI (k + 1)) _ = _
  rw [e_X5_odds_53, if_pos (ylt (by omega) (by omega))]
  refine Eq.trans (lpG (w := fun x i => w_X5_odds_83 (nI p) (nI k) w (nI n) (oU p n k) x i (hG m ml pm)) (fun i => oL i) (n := n) ?_ 0 (by omega)) ?_
  · intro i hi
    show w_X5_odds_83 _ _ _ _ _ _ (nI i) _ = w_X5_odds_83 _ _ _ _ _ _ (nI (i + 1)) _
    rw [e_X5_odds_83, if_neg (nle (by omega) (by omega)), nI_1]; rfl
  show w_X5_odds_83 _ _ _ _ _ (oL n) (nI n) _ = _
  rw [e_X5_odds_83, if_pos (Int32.le_refl _)]
  refine Eq.trans (lpG (w := fun (x : Int32 × Int32) i => w_X5_odds_106 (nI p) (nI k) w (nI n) x.1 x.2 i (hG m ml pm)) (fun i => oR (oU p n k, oL n) i) (n := n) ?_ 0 (by omega)) ?_
  · intro i hi
    show w_X5_odds_106 _ _ _ _ _ _ (nI i) _ = w_X5_odds_106 _ _ _ _ (o5 (o2 (oR (oU p n k, oL n) i))).1 (o5 (o2 (oR (oU p n k, oL n) i))).2 (nI (i + 1)) _
    generalize oR (oU p n k, oL n) i = x
    have e139 : ∀ y : Int32 × Int32, w_X5_odds_139 (nI p) (nI k) w (nI n) y.1 y.2 (nI i) (hG m ml pm) = w_X5_odds_106 (nI p) (nI k) w (nI n) (o5 y).1 (o5 y).2 (nI (i + 1)) (hG m ml pm) := by
      intro y
      rw [e_X5_odds_139, nI_1]
      unfold o5
      split
      · split <;> rfl
      · rfl
    rw [e_X5_odds_106, if_neg (nle (by omega) (by omega)), ← e139]
    unfold o2
    split
    · split <;> rfl
    · rfl
  show w_X5_odds_106 _ _ _ _ _ _ _ _ = _
  rw [e_X5_odds_106, if_pos (Int32.le_refl _)]
  split <;> rfl
variable (m : hM)
theorem m_power (b : Int32) {e : Nat} (he : e ≤ 100) : f_X6_power [.int b, .int (nI e)] (hG m ml pm) = some (some (.int (oPw b e)), hG m ml pm) := by
  rw [e_X6_power]
  refine Eq.trans (lpG (w := fun x i => w_X6_power_4 b (nI e) x i (hG m ml pm)) (fun i => oPw b i) (n := e) ?_ 0 (by omega)) ?_
  · intro i hi
    show w_X6_power_4 _ _ _ (nI i) _ = w_X6_power_4 _ _ _ (nI (i + 1)) _
    rw [e_X6_power_4, if_neg (nle (by omega) (by omega)), nI_1]; rfl
  · show w_X6_power_4 _ _ _ _ _ = _
    rw [e_X6_power_4, if_pos (Int32.le_refl _)]
theorem m_choose {e : Nat} (he : e ≤ 100) : f_X6_choose [.int (nI n), .int (nI e)] (hG m ml pm) = some (some (.int (oCh n e)), hG m ml pm) := by
  rw [e_X6_choose]
  refine Eq.trans (lpG (w := fun x i => w_X6_choose_4 (nI n) (nI e) x i (hG m ml pm)) (fun i => oCh n i) (n := e) ?_ 0 (by omega)) ?_
  · intro i hi
    show w_X6_choose_4 _ _ _ (nI i) _ = w_X6_choose_4 _ _ ((oCh n i * (nI n - nI i)) / (nI i + 1)) (nI (i + 1)) _
    rw [e_X6_choose_4, if_neg (nle (by omega) (by omega)), nI_1, if_neg (nz (by omega) (by omega))]
  · show w_X6_choose_4 _ _ _ _ _ = _
    rw [e_X6_choose_4, if_pos (Int32.le_refl _)]
theorem m_gcd (a b : Int32) : ∀ f x y, oT f x y = true → w_X6_gcd_4 a b x y (hG m ml pm) = some (some (.int (oG f x y)), hG m ml pm) := by
  intro f
  induction f with
  | zero => intro x y h; cases h
  | succ f ih =>
    intro x y h
    have h' : (if y = 0 then true else oT f y (x - x / y * y)) = true := h
    rw [e_X6_gcd_4]
    show _ = some (some (Value.int (if y = 0 then x else oG f y (x - x / y * y))), _)
    by_cases q : y = 0
    · rw [if_pos q, if_pos q]
    · rw [if_neg q] at h'
      rw [if_neg q, if_neg q, if_neg q, ih _ _ h']
theorem m_odds68 {k : Nat} (w : Int32) (hk : k ≤ 7) (hn : n ≤ 6) (hp : p ≤ 10) : w_X6_odds_68 (nI p) (nI k) w (nI n) 0 0 (hG m ml pm) = some (some (.int (if w = 0 then (oR (oU p n k, oL n) n).1 else (oR (oU p n k, oL n) n).2)), hG m ml pm) := by
  have tab := oC_t n (by omega) p (by omega) k (by omega)
  unfold oC at tab
  rw [Bool.and_eq_true, Bool.and_eq_true, Bool.and_eq_true, decide_eq_true_iff, decide_eq_true_iff, decide_eq_true_iff] at tab
  obtain ⟨t1, t2, t3, t4⟩ := tab
  refine Eq.trans (lpG (w := fun x i => w_X6_odds_68 (nI p) (nI k) w (nI n) x i (hG m ml pm)) (fun i => sumI (fun e => (oCh n e * oPw (nI p) e) * oPw (10 - nI p) (n - e)) i) (n := min n k + 1) ?_ 0 (by omega)) ?_
  · intro i hi
    show w_X6_odds_68 _ _ _ _ _ (nI i) _ = w_X6_odds_68 _ _ _ _ _ (nI (i + 1)) _
    rw [e_X6_odds_68, if_neg (nlt (by omega) (by omega)), if_neg (nlt (by omega) (by omega)), m_choose _ _ _ _ (by omega), bI_i, e_X6_odds_90, m_power _ _ _ _ (by omega), bI_i, e_X6_odds_96, pk_sub (show i ≤ n by omega), m_power _ _ _ _ (by omega), bI_i, e_X6_odds_109, nI_1]; rfl
  show w_X6_odds_68 _ _ _ _ (oM p n k) (nI (min n k + 1)) _ = _
  have e119 : ∀ i, w_X6_odds_119 (nI p) (nI k) w (nI n) (oM p n k) i (hG m ml pm) = some (some (.int (if w = 0 then (oR (oU p n k, oL n) n).1 else (oR (oU p n k, oL n) n).2)), hG m ml pm) := by
    intro i
    rw [e_X6_odds_119, m_power _ _ _ _ (by omega), bI_i, e_X6_odds_126, e_X6_gcd, m_gcd _ _ _ _ _ 30 _ _ t1, bI_i, e_X6_odds_135, if_neg t2, if_neg t2, t3, t4]
    split <;> rfl
  rw [e_X6_odds_68]
  by_cases q : n < min n k + 1
  · rw [if_pos (ylt q (by omega)), e119]
  · rw [if_neg (nlt (by omega) (by omega)), if_pos (ylt (by omega) (by omega)), e119]
end O1
theorem b_odds {S : pS} (ok : Ok S) (T : Int64) (a b c : Int32) : ∃ v S' T', Both (f_X5_odds [.ref 0, .int a, .int b, .int c]) (f_X6_odds [.ref 99, .int a, .int b, .int c]) S T v S' T' := by
  have F7 := ok.F7
  have n7 := ok.n7
  by_cases h : wi3 a 0 10 = 0
  · refine ⟨-1, S, T, Both_q ok (fun mi ml pm k => ?_) (fun mi ml pm k => ?_)⟩
    · rw [e_X5_odds, x5_isWithin, bI_i, e_X5_odds_7, if_pos h]
    · rw [e_X6_odds, x6_in, bI_i, e_X6_odds_12, if_pos h]
  by_cases h2 : wi3 b 0 7 = 0
  · refine ⟨-1, S, T, Both_q ok (fun mi ml pm k => ?_) (fun mi ml pm k => ?_)⟩
    · rw [e_X5_odds, x5_isWithin, bI_i, e_X5_odds_7, if_neg h, x5_isWithin, bI_i, e_X5_odds_17, if_pos h2]
    · rw [e_X6_odds, x6_in, bI_i, e_X6_odds_12, if_neg h, x6_in, bI_i, e_X6_odds_22, if_pos h2]
  by_cases h3 : wi3 c 0 1 = 0
  · refine ⟨-1, S, T, Both_q ok (fun mi ml pm k => ?_) (fun mi ml pm k => ?_)⟩
    · rw [e_X5_odds, x5_isWithin, bI_i, e_X5_odds_7, if_neg h, x5_isWithin, bI_i, e_X5_odds_17, if_neg h2, x5_isWithin, bI_i, e_X5_odds_26, if_pos h3]
    · rw [e_X6_odds, x6_in, bI_i, e_X6_odds_12, if_neg h, x6_in, bI_i, e_X6_odds_22, if_neg h2, x6_in, bI_i, e_X6_odds_31, if_pos h3]
  obtain ⟨p, -, hp, rfl⟩ := nat_of (b := 0) (n := 10) (by omega) h (by omega)
  obtain ⟨k', -, hk, rfl⟩ := nat_of (b := 0) (n := 7) (by omega) h2 (by omega)
  refine ⟨if c = 0 then (oR (oU p (S 5 24 - 1) k', oL (S 5 24 - 1)) (S 5 24 - 1)).1 else (oR (oU p (S 5 24 - 1) k', oL (S 5 24 - 1)) (S 5 24 - 1)).2, S, T, fun mi ml pm k => ?_, fun mi ml pm k => ?_, ok⟩
  · obtain ⟨m1, r1, r2, r3⟩ := c_countWays ml pm p (S 5 24 - 1) (by omega) mi
    rw [e_X5_odds, x5_isWithin, bI_i, e_X5_odds_7, if_neg h, x5_isWithin, bI_i, e_X5_odds_17, if_neg h2, x5_isWithin, bI_i, e_X5_odds_26, if_neg h3, c_lc k ok, bI_i, e_X5_odds_38, r1, bV_v, c_odds47 ml pm p _ c hk (by omega) r3]
    exact ⟨m1, ml, pm, rfl, Cl_fx k (fun c hc => r2 c (by omega)), fun c hc => r2 c (by omega), rfl⟩
  · have km := Ml_th (0 : Int32) k
    apply MO_q k
    rw [e_X6_odds, x6_in, bI_i, e_X6_odds_12, if_neg h, x6_in, bI_i, e_X6_odds_22, if_neg h2, x6_in, bI_i, e_X6_odds_31, if_neg h3, m_s km 24 (by omega)]
    by_cases z : S 5 24 = 0
    · rw [if_neg (by rw [z]; decide), z]
      exact m_odds68 ml pm p 0 _ c hk (by omega) hp
    · rw [if_pos (show (1 : Int32) ≤ nI (S 5 24) from yle (a := 1) (by omega) (by omega)), show nI (S 5 24) - 1 = nI (S 5 24 - 1) from pk_sub (b := 1) (by omega)]
      exact m_odds68 ml pm p _ _ c hk (by omega) hp
