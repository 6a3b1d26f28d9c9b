/-! the tokens of a text: pure, the class's reader, the model's reader -/
def skN (L : Nat → Nat) : Nat → Nat → Nat
  | 0, a => a
  | d + 1, a => if L a = 32 then skN L d (a + 1) else a
def dgN (L : Nat → Nat) : Nat → Nat → Nat
  | 0, a => a
  | d + 1, a => if 48 ≤ L a ∧ L a ≤ 57 then dgN L d (a + 1) else a
def vlN (L : Nat → Nat) : Nat → Nat → Nat → Nat
  | 0, _, v => v
  | d + 1, a, v => if 48 ≤ L a ∧ L a ≤ 57 then vlN L d (a + 1) (if 99 < v then v else 10 * v + L a - 48) else v
def tpl (L : Nat → Nat) (n a : Nat) : Nat := skN L (n - a) a
def tvl (L : Nat → Nat) (n a : Nat) : Nat := vlN L (n - tpl L n a) (tpl L n a) 0
def ten (L : Nat → Nat) (n a : Nat) : Nat := dgN L (n - tpl L n a) (tpl L n a)
def tnx (L : Nat → Nat) (n a : Nat) : Nat := if n ≤ tpl L n a then tpl L n a else if 48 ≤ L (tpl L n a) ∧ L (tpl L n a) ≤ 57 then ten L n a else tpl L n a + 1
def tkd (L : Nat → Nat) (n a : Nat) : Nat := if n ≤ tpl L n a then 0 else if 48 ≤ L (tpl L n a) ∧ L (tpl L n a) ≤ 57 then (if 99 < tvl L n a ∨ (L (tpl L n a) = 48 ∧ 1 < ten L n a - tpl L n a) then 5 else 4) else if L (tpl L n a) = 59 then 3 else if L (tpl L n a) = 100 then 1 else if L (tpl L n a) = 119 then 2 else 5
theorem skN_b (L : Nat → Nat) : ∀ d a, a ≤ skN L d a ∧ skN L d a ≤ a + d := by
  intro d
  induction d with
  | zero => intro a; exact ⟨Nat.le_refl _, Nat.le_refl _⟩
  | succ d ih =>
    intro a
    show a ≤ (if L a = 32 then skN L d (a + 1) else a) ∧ (if L a = 32 then skN L d (a + 1) else a) ≤ a + (d + 1)
    split
    · have := ih (a + 1); omega
    · omega
theorem dgN_b (L : Nat → Nat) : ∀ d a, a ≤ dgN L d a ∧ dgN L d a ≤ a + d := by
  intro d
  induction d with
  | zero => intro a; exact ⟨Nat.le_refl _, Nat.le_refl _⟩
  | succ d ih =>
    intro a
    show a ≤ (if 48 ≤ L a ∧ L a ≤ 57 then dgN L d (a + 1) else a) ∧ (if 48 ≤ L a ∧ L a ≤ 57 then dgN L d (a + 1) else a) ≤ a + (d + 1)
    split
    · have := ih (a + 1); omega
    · omega
theorem vlN_b (L : Nat → Nat) : ∀ d a v, v ≤ 999 → vlN L d a v ≤ 999 := by
  intro d
  induction d with
  | zero => intro a v h; exact h
  | succ d ih =>
    intro a v h
    show (if 48 ≤ L a ∧ L a ≤ 57 then vlN L d (a + 1) (if 99 < v then v else 10 * v + L a - 48) else v) ≤ 999
    split
    · apply ih
      split <;> omega
    · exact h
theorem tpl_b (L : Nat → Nat) {n a : Nat} (h : a ≤ n) : a ≤ tpl L n a ∧ tpl L n a ≤ n := by
  have := skN_b L (n - a) a
  unfold tpl; omega
theorem ten_b (L : Nat → Nat) {n a : Nat} (h : a ≤ n) : tpl L n a ≤ ten L n a ∧ ten L n a ≤ n := by
  have h1 := tpl_b L h
  have := dgN_b L (n - tpl L n a) (tpl L n a)
  unfold ten; omega
theorem ten_s (L : Nat → Nat) {n a : Nat} (h : a ≤ n) (h1 : tpl L n a < n) (h2 : 48 ≤ L (tpl L n a) ∧ L (tpl L n a) ≤ 57) : tpl L n a < ten L n a := by
  unfold ten
  obtain ⟨d, e⟩ : ∃ d, n - tpl L n a = d + 1 := ⟨n - tpl L n a - 1, by omega⟩
  rw [e]
  show _ < (if 48 ≤ L (tpl L n a) ∧ L (tpl L n a) ≤ 57 then dgN L d (tpl L n a + 1) else tpl L n a)
  rw [if_pos h2]
  have := dgN_b L d (tpl L n a + 1)
  omega
theorem tnx_b (L : Nat → Nat) {n a : Nat} (h : a ≤ n) : a ≤ tnx L n a ∧ tnx L n a ≤ n ∧ (¬ tkd L n a = 0 → a < tnx L n a) := by
  have h1 := tpl_b L h
  have h2 := ten_b L h
  unfold tnx tkd
  by_cases q : n ≤ tpl L n a
  · rw [if_pos q, if_pos q]
    exact ⟨h1.1, h1.2, fun c => absurd rfl c⟩
  · rw [if_neg q]
    by_cases q2 : 48 ≤ L (tpl L n a) ∧ L (tpl L n a) ≤ 57
    · rw [if_pos q2]
      have := ten_s L h (by omega) q2
      exact ⟨by omega, by omega, fun _ => by omega⟩
    · rw [if_neg q2]
      exact ⟨by omega, by omega, fun _ => by omega⟩
theorem tkd_le (L : Nat → Nat) (n a : Nat) : tkd L n a ≤ 5 := by
  unfold tkd
  split
  · omega
  · split
    · split <;> omega
    · split
      · omega
      · split
        · omega
        · split <;> omega
theorem tkd_4 {L : Nat → Nat} {n a : Nat} (h : tkd L n a = 4) : tvl L n a ≤ 99 := by
  unfold tkd at h
  split at h
  · omega
  · split at h
    · split at h
      · omega
      · omega
    · split at h
      · omega
      · split at h
        · omega
        · split at h <;> omega
/-- the class's text -/
def CT (m : hM) (L : Nat → Nat) (n : Nat) : Prop := n ≤ 200 ∧ m 1 1 = nI n ∧ ∀ k, k < n → m 2 k = nI (L k) ∧ L k ≤ 255
def MT (m : hM) (L : Nat → Nat) (n : Nat) : Prop := n ≤ 200 ∧ m 99 3 = nI n ∧ ∀ k, k < n → m 100 k = nI (L k) ∧ L k ≤ 255
theorem CT_fr {m m1 : hM} {L : Nat → Nat} {n : Nat} (h : CT m L n) (h1 : m1 1 1 = m 1 1) (h2 : m1 2 = m 2) : CT m1 L n := by
  unfold CT; rw [h1, h2]; exact h
theorem MT_fr {m m1 : hM} {L : Nat → Nat} {n : Nat} (h : MT m L n) (h1 : m1 99 3 = m 99 3) (h2 : m1 100 = m 100) : MT m1 L n := by
  unfold MT; rw [h1, h2]; exact h
section T1
variable (ml : Nat → Nat → Int64) (pm : Nat → Option Nat) {L : Nat → Nat} {n : Nat}
theorem c_isDigit (m : hM) {x : Nat} (hx : x ≤ 255) : f_X3_isDigit [.int (nI x)] (hG m ml pm) = some (some (.int (if 48 ≤ x ∧ x ≤ 57 then 1 else 0)), hG m ml pm) := by
  rw [e_X3_isDigit, lit_nI 48, lit_nI 57]
  by_cases a : x < 48
  · rw [if_pos (ylt a (by omega)), if_neg (by omega)]
  · rw [if_neg (nlt (by omega) (by omega))]
    by_cases b : 57 < x
    · rw [if_pos (ylt b (by omega)), if_neg (by omega)]
    · rw [if_neg (nlt (by omega) (by omega)), if_pos (by omega)]
theorem vC {v x : Nat} (h : 48 ≤ x ∧ x ≤ 57) : (if nI (min 100 v) * 10 + nI x - 48 < (100 : Int32) then nI (min 100 v) * 10 + nI x - 48 else 100) = nI (min 100 (if 99 < v then v else 10 * v + x - 48)) := by
  have e : nI (min 100 v) * 10 + nI x - 48 = nI (min 100 v * 10 + x - 48) := by
    rw [lit_nI 10, lit_nI 48, pk_mul, nI_add, pk_sub (by omega)]
  rw [e, lit_nI 100]
  by_cases q : min 100 v * 10 + x - 48 < 100
  · rw [if_pos (ylt q (by omega))]
    congr 1
    split <;> omega
  · rw [if_neg (nlt (by omega) (by omega))]
    congr 1
    split <;> omega
theorem c_num25 (z : Int32) : ∀ d a v (m : hM), CT m L n → a + d = n → m 1 5 = nI a → m 1 7 = nI (min 100 v) → ∃ m1 : hM, w_X3_nextNumber_25 z (hG m ml pm) = w_X3_nextNumber_93 z (hG m1 ml pm) ∧ m1 1 5 = nI (dgN L d a) ∧ m1 1 7 = nI (min 100 (vlN L d a v)) ∧ (∀ j, j ≠ 5 → j ≠ 7 → m1 1 j = m 1 j) ∧ ∀ c, c ≠ 1 → m1 c = m c := by
  intro d
  induction d with
  | zero =>
    intro a v m ct ha h5 h7
    have := ct.1
    rw [e_X3_nextNumber_25, ct.2.1, h5, if_pos (yle (by omega) (by omega))]
    exact ⟨m, rfl, h5, h7, fun _ _ _ => rfl, fun _ _ => rfl⟩
  | succ d ih =>
    intro a v m ct ha h5 h7
    have := ct.1
    obtain ⟨lk, lb⟩ := ct.2.2 a (by omega)
    rw [e_X3_nextNumber_25, ct.2.1, h5, if_neg (nle (by omega) (by omega)), if_pos (in_nI (by omega) (by omega)), cl_nI (by omega), lk, c_isDigit ml pm m lb, bI_i, e_X3_nextNumber_48]
    show ∃ m1 : hM, _ ∧ m1 1 5 = nI (if 48 ≤ L a ∧ L a ≤ 57 then dgN L d (a + 1) else a) ∧ m1 1 7 = nI (min 100 (if 48 ≤ L a ∧ L a ≤ 57 then vlN L d (a + 1) (if 99 < v then v else 10 * v + L a - 48) else v)) ∧ _
    by_cases q : 48 ≤ L a ∧ L a ≤ 57
    · rw [if_pos q, if_pos q, if_pos q, if_neg (by decide), h5, if_pos (in_nI (by omega) (by omega)), cl_nI (by omega), lk, h7, vC q, nI_1]
      obtain ⟨m1, r1, r2, r3, r4, r5⟩ := ih (a + 1) (if 99 < v then v else 10 * v + L a - 48) (hw (hw m 1 7 (nI (min 100 (if 99 < v then v else 10 * v + L a - 48)))) 1 5 (nI (a + 1))) (CT_fr ct (by rw [hw_k _ _ _ (by omega), hw_k _ _ _ (by omega)]) (by rw [hw_oo _ _ _ (by omega), hw_oo _ _ _ (by omega)])) (by omega) (hw_c _ _ _ _) (by rw [hw_k _ _ _ (by omega), hw_c])
      exact ⟨m1, r1, r2, r3, fun j h1 h2 => by rw [r4 j h1 h2, hw_k _ _ _ h1, hw_k _ _ _ h2], fun c hc => by rw [r5 c hc, hw_oo _ _ _ hc, hw_oo _ _ _ hc]⟩
    · rw [if_neg q, if_neg q, if_neg q, if_pos rfl]
      exact ⟨m, rfl, h5, h7, fun _ _ _ => rfl, fun _ _ => rfl⟩
theorem c_tok0 : ∀ d a (m : hM), CT m L n → a + d = n → m 1 5 = nI a → ∃ m1 : hM, w_X3_nextToken_0 (hG m ml pm) = w_X3_nextToken_38 (hG m1 ml pm) ∧ m1 1 5 = nI (skN L d a) ∧ (∀ j, j ≠ 5 → m1 1 j = m 1 j) ∧ ∀ c, c ≠ 1 → m1 c = m c := by
  intro d
  induction d with
  | zero =>
    intro a m ct ha h5
    have := ct.1
    rw [e_X3_nextToken_0, ct.2.1, h5, if_pos (yle (by omega) (by omega))]
    exact ⟨m, rfl, h5, fun _ _ => rfl, fun _ _ => rfl⟩
  | succ d ih =>
    intro a m ct ha h5
    have := ct.1
    obtain ⟨lk, lb⟩ := ct.2.2 a (by omega)
    rw [e_X3_nextToken_0, ct.2.1, h5, if_neg (nle (by omega) (by omega)), if_pos (in_nI (by omega) (by omega)), cl_nI (by omega), lk, nI_1]
    show ∃ m1 : hM, _ ∧ m1 1 5 = nI (if L a = 32 then skN L d (a + 1) else a) ∧ _
    by_cases q : L a = 32
    · rw [if_pos q, if_pos (by rw [q]; rfl)]
      obtain ⟨m1, r1, r2, r4, r5⟩ := ih (a + 1) (hw m 1 5 (nI (a + 1))) (CT_fr ct (by rw [hw_k _ _ _ (by omega)]) (by rw [hw_oo _ _ _ (by omega)])) (by omega) (hw_c _ _ _ _)
      exact ⟨m1, r1, r2, fun j h1 => by rw [r4 j h1, hw_k _ _ _ h1], fun c hc => by rw [r5 c hc, hw_oo _ _ _ hc]⟩
    · rw [if_neg q, if_neg (show ¬ nI (L a) = (32 : Int32) from fun c => q ((eq_nI (b := 32) (by omega) (by omega)).mp c))]
      exact ⟨m, rfl, h5, fun _ _ => rfl, fun _ _ => rfl⟩
/-- the class's next token -/
theorem c_token {a : Nat} (ha : a ≤ n) {m : hM} (ct : CT m L n) (h5 : m 1 5 = nI a) : ∃ m1 : hM, f_X3_nextToken [.ref 1] (hG m ml pm) = some (none, hG m1 ml pm) ∧ m1 1 8 = nI (tpl L n a) ∧ m1 1 5 = nI (tnx L n a) ∧ m1 1 6 = nI (tkd L n a) ∧ (tkd L n a = 4 → m1 1 7 = nI (tvl L n a)) ∧ (∀ j, j < 5 → m1 1 j = m 1 j) ∧ ∀ c, c ≠ 1 → m1 c = m c := by
  have hn := ct.1
  have pb := tpl_b L ha
  obtain ⟨m0, r1, r2, r3, r4⟩ := c_tok0 ml pm (n - a) a m ct (by omega) h5
  have r2' : m0 1 5 = nI (tpl L n a) := r2
  have ct0 : CT m0 L n := CT_fr ct (by rw [r3 1 (by omega)]) (r4 2 (by omega))
  rw [e_X3_nextToken, r1, e_X3_nextToken_38, r2', ct0.2.1]
  unfold tnx tkd
  by_cases q : n ≤ tpl L n a
  · rw [if_neg (nlt q (by omega)), if_pos q, if_pos q]
    exact ⟨_, rfl, by rw [hw_k _ _ _ (by omega), hw_c], by rw [hw_k _ _ _ (by omega), hw_k _ _ _ (by omega)]; exact r2', hw_c _ _ _ _, fun c => by omega, fun j hj => by rw [hw_k _ _ _ (by omega), hw_k _ _ _ (by omega)]; exact r3 j (by omega), fun c hc => by rw [hw_oo _ _ _ hc, hw_oo _ _ _ hc, r4 c hc]⟩
  · obtain ⟨lk, lb⟩ := ct0.2.2 (tpl L n a) (by omega)
    rw [if_pos (ylt (by omega) (by omega)), if_pos (in_nI (by omega) (by omega)), cl_nI (by omega), lk, c_isDigit ml pm _ lb, bI_i, e_X3_nextToken_77, if_neg q, if_neg q]
    generalize hm : hw m0 1 8 (nI (tpl L n a)) = m2
    have g5 : m2 1 5 = nI (tpl L n a) := by rw [← hm, hw_k _ _ _ (by omega)]; exact r2'
    have g8 : m2 1 8 = nI (tpl L n a) := by rw [← hm, hw_c]
    have gj : ∀ j, j < 5 → m2 1 j = m 1 j := fun j hj => by rw [← hm, hw_k _ _ _ (by omega)]; exact r3 j (by omega)
    have gc : ∀ c, c ≠ 1 → m2 c = m c := fun c hc => by rw [← hm, hw_oo _ _ _ hc, r4 c hc]
    have ct2 : CT m2 L n := CT_fr ct (gj 1 (by omega)) (gc 2 (by omega))
    by_cases q2 : 48 ≤ L (tpl L n a) ∧ L (tpl L n a) ≤ 57
    · rw [if_pos q2, if_pos q2, if_pos q2, if_neg (by decide), e_X3_nextNumber, g5, if_pos (in_nI (by omega) (by omega)), cl_nI (by omega), (ct2.2.2 _ (by omega)).1]
      have key : ∀ z : Int32, (z = if L (tpl L n a) = 48 then 1 else 0) → ∃ m1 : hM, bV (w_X3_nextNumber_25 z (hG (hw m2 1 7 0) ml pm)) (fun g2 => w_X3_nextToken_84 (nI (L (tpl L n a))) g2) = some (none, hG m1 ml pm) ∧ m1 1 8 = nI (tpl L n a) ∧ m1 1 5 = nI (ten L n a) ∧ m1 1 6 = nI (if 99 < tvl L n a ∨ (L (tpl L n a) = 48 ∧ 1 < ten L n a - tpl L n a) then 5 else 4) ∧ ((if 99 < tvl L n a ∨ (L (tpl L n a) = 48 ∧ 1 < ten L n a - tpl L n a) then 5 else 4) = 4 → m1 1 7 = nI (tvl L n a)) ∧ (∀ j, j < 5 → m1 1 j = m 1 j) ∧ ∀ c, c ≠ 1 → m1 c = m c := by
        intro z hz
        obtain ⟨m3, s1, s2, s3, s4, s5⟩ := c_num25 ml pm z (n - tpl L n a) (tpl L n a) 0 (hw m2 1 7 0) (CT_fr ct2 (by rw [hw_k _ _ _ (by omega)]) (by rw [hw_oo _ _ _ (by omega)])) (by omega) (by rw [hw_k _ _ _ (by omega)]; exact g5) (hw_c _ _ _ _)
        have s2' : m3 1 5 = nI (ten L n a) := s2
        have s3' : m3 1 7 = nI (min 100 (tvl L n a)) := s3
        have s8 : m3 1 8 = nI (tpl L n a) := by rw [s4 8 (by omega) (by omega), hw_k _ _ _ (by omega)]; exact g8
        have eb := ten_b L ha
        have fj : ∀ x : Int32, ∀ j, j < 5 → hw m3 1 6 x 1 j = m 1 j := fun x j hj => by rw [hw_k _ _ _ (by omega), s4 j (by omega) (by omega), hw_k _ _ _ (by omega)]; exact gj j hj
        have fc : ∀ x : Int32, ∀ c, c ≠ 1 → hw m3 1 6 x c = m c := fun x c hc => by rw [hw_oo _ _ _ hc, s5 c hc, hw_oo _ _ _ hc, gc c hc]
        have e115 : ∀ t : Bool, t = decide (L (tpl L n a) = 48 ∧ 1 < ten L n a - tpl L n a) → ∃ m1 : hM, bV (w_X3_nextNumber_115 z (b01 t) (hG m3 ml pm)) (fun g2 => w_X3_nextToken_84 (nI (L (tpl L n a))) g2) = some (none, hG m1 ml pm) ∧ m1 1 8 = nI (tpl L n a) ∧ m1 1 5 = nI (ten L n a) ∧ m1 1 6 = nI (if 99 < tvl L n a ∨ (L (tpl L n a) = 48 ∧ 1 < ten L n a - tpl L n a) then 5 else 4) ∧ ((if 99 < tvl L n a ∨ (L (tpl L n a) = 48 ∧ 1 < ten L n a - tpl L n a) then 5 else 4) = 4 → m1 1 7 = nI (tvl L n a)) ∧ (∀ j, j < 5 → m1 1 j = m 1 j) ∧ ∀ c, c ≠ 1 → m1 c = m c := by
          intro t ht
          rw [e_X3_nextNumber_115]
          cases t with
          | true =>
            have w := of_decide_eq_true ht.symm
            rw [if_neg (by decide), bV_v, e_X3_nextToken_84, if_pos (Or.inr w)]
            exact ⟨_, rfl, by rw [hw_k _ _ _ (by omega)]; exact s8, by rw [hw_k _ _ _ (by omega)]; exact s2', hw_c _ _ _ _, fun c => by omega, fj _, fc _⟩
          | false =>
            have w := of_decide_eq_false ht.symm
            rw [if_pos (by decide), s3']
            by_cases v9 : 99 < tvl L n a
            · rw [if_neg (show ¬ nI (min 100 (tvl L n a)) < (100 : Int32) from nlt (b := 100) (by omega) (by omega)), bV_v, e_X3_nextToken_84, if_pos (Or.inl v9)]
              exact ⟨_, rfl, by rw [hw_k _ _ _ (by omega)]; exact s8, by rw [hw_k _ _ _ (by omega)]; exact s2', hw_c _ _ _ _, fun c => by omega, fj _, fc _⟩
            · rw [if_pos (show nI (min 100 (tvl L n a)) < (100 : Int32) from ylt (b := 100) (by omega) (by omega)), bV_v, e_X3_nextToken_84, if_neg (fun c => by rcases c with c | c; exact v9 c; exact w c)]
              exact ⟨_, rfl, by rw [hw_k _ _ _ (by omega)]; exact s8, by rw [hw_k _ _ _ (by omega)]; exact s2', hw_c _ _ _ _, fun _ => by rw [hw_k _ _ _ (by omega), s3', show min 100 (tvl L n a) = tvl L n a by omega], fj _, fc _⟩
        rw [s1, e_X3_nextNumber_93, e_X3_nextNumber_114, s2', s8, pk_sub eb.1]
        by_cases z0 : L (tpl L n a) = 48
        · rw [if_pos z0] at hz
          rw [if_neg (show ¬ z = 0 by rw [hz]; decide)]
          by_cases l1 : ten L n a - tpl L n a ≤ 1
          · rw [if_pos (show nI (ten L n a - tpl L n a) ≤ (1 : Int32) from yle (b := 1) l1 (by omega))]
            exact e115 false (by rw [decide_eq_false (fun c => by omega)])
          · rw [if_neg (show ¬ nI (ten L n a - tpl L n a) ≤ (1 : Int32) from nle (b := 1) (by omega) (by omega))]
            exact e115 true (by rw [decide_eq_true ⟨z0, by omega⟩])
        · rw [if_neg z0] at hz
          rw [if_pos hz]
          exact e115 false (by rw [decide_eq_false (fun c => z0 c.1)])
      by_cases z0 : L (tpl L n a) = 48
      · rw [if_pos (show nI (L (tpl L n a)) = 48 by rw [z0]; rfl)]
        exact key 1 (by rw [if_pos z0])
      · rw [if_neg (show ¬ nI (L (tpl L n a)) = (48 : Int32) from fun c => z0 ((eq_nI (b := 48) (by omega) (by omega)).mp c))]
        exact key 0 (by rw [if_neg z0])
    · rw [if_neg q2, if_neg q2, if_neg q2, if_pos rfl, g5, nI_1]
      have fin : ∀ x : Nat, ∃ m1 : hM, (some (none, hG (hw (hw m2 1 5 (nI (tpl L n a + 1))) 1 6 (nI x)) ml pm) : Option sx_R) = some (none, hG m1 ml pm) ∧ m1 1 8 = nI (tpl L n a) ∧ m1 1 5 = nI (tpl L n a + 1) ∧ m1 1 6 = nI x ∧ (∀ j, j < 5 → m1 1 j = m 1 j) ∧ ∀ c, c ≠ 1 → m1 c = m c := fun x =>
        ⟨_, rfl, by rw [hw_k _ _ _ (by omega), hw_k _ _ _ (by omega)]; exact g8, by rw [hw_k _ _ _ (by omega), hw_c], hw_c _ _ _ _, fun j hj => by rw [hw_k _ _ _ (by omega), hw_k _ _ _ (by omega)]; exact gj j hj, fun c hc => by rw [hw_oo _ _ _ hc, hw_oo _ _ _ hc, gc c hc]⟩
      have ne : ∀ x : Nat, x ≤ 200 → ¬ L (tpl L n a) = x → ¬ nI (L (tpl L n a)) = nI x := fun x hx h c => h ((eq_nI (by omega) (by omega)).mp c)
      by_cases c1 : L (tpl L n a) = 59
      · rw [if_pos (show nI (L (tpl L n a)) = 59 by rw [c1]; rfl), if_pos c1]
        obtain ⟨m1, t1, t2, t3, t4, t5, t6⟩ := fin 3
        exact ⟨m1, t1, t2, t3, t4, fun c => by omega, t5, t6⟩
      · rw [if_neg (show ¬ nI (L (tpl L n a)) = (59 : Int32) from ne 59 (by omega) c1), if_neg c1]
        by_cases c2 : L (tpl L n a) = 100
        · rw [if_pos (show nI (L (tpl L n a)) = 100 by rw [c2]; rfl), if_pos c2]
          obtain ⟨m1, t1, t2, t3, t4, t5, t6⟩ := fin 1
          exact ⟨m1, t1, t2, t3, t4, fun c => by omega, t5, t6⟩
        · rw [if_neg (show ¬ nI (L (tpl L n a)) = (100 : Int32) from ne 100 (by omega) c2), if_neg c2]
          by_cases c3 : L (tpl L n a) = 119
          · rw [if_pos (show nI (L (tpl L n a)) = 119 by rw [c3]; rfl), if_pos c3]
            obtain ⟨m1, t1, t2, t3, t4, t5, t6⟩ := fin 2
            exact ⟨m1, t1, t2, t3, t4, fun c => by omega, t5, t6⟩
          · rw [if_neg (show ¬ nI (L (tpl L n a)) = (119 : Int32) from ne 119 (by omega) c3), if_neg c3]
            obtain ⟨m1, t1, t2, t3, t4, t5, t6⟩ := fin 5
            exact ⟨m1, t1, t2, t3, t4, fun c => by omega, t5, t6⟩
end T1
