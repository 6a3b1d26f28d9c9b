/-! one item: the model -/
/-- what the model's reader leaves alone -/
def FrM (m1 m : hM) : Prop := (∀ c, c < 99 ∨ c = 100 ∨ 104 < c → m1 c = m c) ∧ (∀ j, j < 4 ∨ (8 < j ∧ j ≠ 13) → m1 99 j = m 99 j) ∧ (∀ j, j < 2 → m1 101 j = m 101 j) ∧ ∀ f, f < 7 → m1 102 f = m 102 f ∧ m1 103 f = m 103 f ∧ m1 104 f = m 104 f
theorem FrM_t {m2 m1 m : hM} (h : FrM m2 m1) (h' : FrM m1 m) : FrM m2 m := ⟨fun c hc => by rw [h.1 c hc, h'.1 c hc], fun j hj => by rw [h.2.1 j hj, h'.2.1 j hj], fun j hj => by rw [h.2.2.1 j hj, h'.2.2.1 j hj], fun f hf => by rw [(h.2.2.2 f hf).1, (h.2.2.2 f hf).2.1, (h.2.2.2 f hf).2.2]; exact h'.2.2.2 f hf⟩
theorem FrM_r (m : hM) : FrM m m := ⟨fun _ _ => rfl, fun _ _ => rfl, fun _ _ => rfl, fun _ _ => ⟨rfl, rfl, rfl⟩⟩
theorem MT_F {m m1 : hM} {L : Nat → Nat} {n : Nat} (h : MT m L n) (f : FrM m1 m) : MT m1 L n := MT_fr h (f.2.1 3 (by omega)) (f.1 100 (by omega))
/-- the token at a is the one at hand -/
def TI (m : hM) (L : Nat → Nat) (n a : Nat) : Prop := m 99 6 = nI (tpl L n a) ∧ m 99 4 = nI (tnx L n a) ∧ m 99 5 = nI (kdM (tkd L n a)) ∧ (tkd L n a = 4 → m 99 7 = nI (tvl L n a)) ∧ (tkd L n a = 1 → m 99 7 = nI 100) ∧ (tkd L n a = 2 → m 99 7 = nI 119)
theorem TI_fr {m1 m : hM} {L : Nat → Nat} {n a : Nat} (h : ∀ j, j < 8 → m1 99 j = m 99 j) (k : TI m L n a) : TI m1 L n a := by
  unfold TI; rw [h 6 (by omega), h 4 (by omega), h 5 (by omega), h 7 (by omega)]; exact k
/-- the draft -/
def MD (m : hM) (F w wt : Nat) (D : pS) : Prop := m 101 2 = nI F ∧ m 101 3 = nI w ∧ m 99 13 = nI wt ∧ ∀ f, f < F → m 102 (7 + f) = nI (D 2 f) ∧ m 103 (7 + f) = nI (D 3 f) ∧ m 104 (7 + f) = nI (D 4 f)
theorem kdM_le (k : Nat) : kdM k ≤ 4 := by
  unfold kdM
  split
  · omega
  · split
    · omega
    · split
      · omega
      · split
        · omega
        · split <;> omega
theorem frT {m1 m : hM} (h1 : ∀ j, j < 4 ∨ 7 < j → m1 99 j = m 99 j) (h2 : ∀ c, c ≠ 99 → m1 c = m c) : FrM m1 m := ⟨fun c hc => h2 c (by omega), fun j hj => h1 j (by omega), fun j _ => by rw [h2 101 (by omega)], fun f _ => by rw [h2 102 (by omega), h2 103 (by omega), h2 104 (by omega)]; exact ⟨rfl, rfl, rfl⟩⟩
theorem fr99 (m : hM) {k : Nat} (v : Int32) (h : (4 ≤ k ∧ k ≤ 8) ∨ k = 13) : FrM (hw m 99 k v) m := ⟨fun c hc => hw_oo _ _ _ (by omega), fun j hj => hw_k _ _ _ (by omega), fun j _ => by rw [hw_oo _ _ _ (by omega)], fun f _ => by rw [hw_oo _ _ _ (by omega), hw_oo _ _ _ (by omega), hw_oo _ _ _ (by omega)]; exact ⟨rfl, rfl, rfl⟩⟩
theorem fr101 (m : hM) {k : Nat} (v : Int32) (h : 2 ≤ k) : FrM (hw m 101 k v) m := ⟨fun c hc => hw_oo _ _ _ (by omega), fun j hj => by rw [hw_oo _ _ _ (by omega)], fun j hj => hw_k _ _ _ (by omega), fun f _ => by rw [hw_oo _ _ _ (by omega), hw_oo _ _ _ (by omega), hw_oo _ _ _ (by omega)]; exact ⟨rfl, rfl, rfl⟩⟩
theorem fr10x (m : hM) {c k : Nat} (v : Int32) (hc : c = 102 ∨ c = 103 ∨ c = 104) (h : 7 ≤ k) : FrM (hw m c k v) m := by
  refine ⟨fun c' hc' => hw_oo _ _ _ (by omega), fun j hj => by rw [hw_oo _ _ _ (by omega)], fun j hj => by rw [hw_oo _ _ _ (by omega)], fun f hf => ?_⟩
  have e : ∀ x, hw m c k v x f = m x f := fun x => by
    by_cases q : x = c
    · rw [q, hw_k _ _ _ (by omega)]
    · rw [hw_oo _ _ _ q]
  exact ⟨e 102, e 103, e 104⟩
section J1
variable (ml : Nat → Nat → Int64) (pm : Nat → Option Nat) {L : Nat → Nat} {n : Nat}
theorem m_well1 {m : hM} (h : m 99 8 = -1) : f_X6_isWell [.ref 99] (hG m ml pm) = some (some (.int 1), hG m ml pm) := by
  rw [e_X6_isWell, h, if_neg (by decide)]
theorem m_well0 {m : hM} {q : Nat} (h : m 99 8 = nI q) (hq : q ≤ 1000) : f_X6_isWell [.ref 99] (hG m ml pm) = some (some (.int 0), hG m ml pm) := by
  rw [e_X6_isWell, h, if_pos (show (0 : Int32) ≤ nI q from yle (a := 0) (by omega) (by omega))]
theorem m_takes0 {m : hM} {q : Nat} (h : m 99 8 = nI q) (hq : q ≤ 1000) (b : Int32) : f_X6_takes [.ref 99, .int b] (hG m ml pm) = some (some (.int 0), hG m ml pm) := by
  rw [e_X6_takes, m_well0 ml pm h hq, bI_i, e_X6_takes_4, if_pos rfl]
theorem m_takesF {m : hM} (h : m 99 8 = -1) : f_X6_takes [.ref 99, .int 0] (hG m ml pm) = some (some (.int 0), hG (hw m 99 8 (m 99 6)) ml pm) := by
  rw [e_X6_takes, m_well1 ml pm h, bI_i, e_X6_takes_4, if_neg (by decide), if_pos rfl]
theorem m_takesT {a : Nat} (ha : a ≤ n) {m : hM} (h : m 99 8 = -1) (mt : MT m L n) (ti : TI m L n a) : ∃ m1 : hM, f_X6_takes [.ref 99, .int 1] (hG m ml pm) = some (some (.int (m 99 7)), hG m1 ml pm) ∧ TI m1 L n (tnx L n a) ∧ (∀ j, j < 4 ∨ 7 < j → m1 99 j = m 99 j) ∧ ∀ c, c ≠ 99 → m1 c = m c := by
  have b1 := tnx_b L ha
  obtain ⟨m1, r1, r2, r3, r4, r5, r6, r7⟩ := m_token ml pm b1.2.1 mt ti.2.1
  exact ⟨m1, by rw [e_X6_takes, m_well1 ml pm h, bI_i, e_X6_takes_4, if_neg (by decide), if_neg (by decide), r1, bV_v, e_X6_takes_32], ⟨r2, r3, r4, r5⟩, r6, r7⟩
theorem m_num0 {m : hM} {q : Nat} (h : m 99 8 = nI q) (hq : q ≤ 1000) (x y : Int32) : f_X6_number [.ref 99, .int x, .int y] (hG m ml pm) = some (some (.int 0), hG m ml pm) := by
  rw [e_X6_number, e_X6_number_25]
  have e26 : ∀ t, w_X6_number_26 x y t (hG m ml pm) = some (some (.int 0), hG m ml pm) := fun t => by rw [e_X6_number_26, m_takes0 ml pm h hq, bI_i, e_X6_number_29]
  rw [e26, x6_in, bI_i, e_X6_number_18, e_X6_number_25, e26, e26]
  split
  · split <;> rfl
  · rfl
theorem kdM_4 {k : Nat} (h : k ≤ 5) : (nI (kdM k) = (2 : Int32)) ↔ k = 4 := by
  rcases (show k = 0 ∨ k = 1 ∨ k = 2 ∨ k = 3 ∨ k = 4 ∨ k = 5 by omega) with rfl | rfl | rfl | rfl | rfl | rfl <;> decide
theorem kdM_0 {k : Nat} (h : k ≤ 5) : (nI (kdM k) = (0 : Int32)) ↔ k = 0 := by
  rcases (show k = 0 ∨ k = 1 ∨ k = 2 ∨ k = 3 ∨ k = 4 ∨ k = 5 by omega) with rfl | rfl | rfl | rfl | rfl | rfl <;> decide
theorem kdM_1 {k : Nat} (h : k ≤ 5) : (nI (kdM k) = (1 : Int32)) ↔ (k = 1 ∨ k = 2) := by
  rcases (show k = 0 ∨ k = 1 ∨ k = 2 ∨ k = 3 ∨ k = 4 ∨ k = 5 by omega) with rfl | rfl | rfl | rfl | rfl | rfl <;> decide
theorem kdM_3 {k : Nat} (h : k ≤ 5) : (nI (kdM k) = (3 : Int32)) ↔ k = 3 := by
  rcases (show k = 0 ∨ k = 1 ∨ k = 2 ∨ k = 3 ∨ k = 4 ∨ k = 5 by omega) with rfl | rfl | rfl | rfl | rfl | rfl <;> decide
theorem m_numF {a lo hi : Nat} (hl : lo ≤ 1000) (hh : hi ≤ 1000) {m : hM} (h : m 99 8 = -1) (ti : TI m L n a) (c : nok L n a lo hi = false) : f_X6_number [.ref 99, .int (nI lo), .int (nI hi)] (hG m ml pm) = some (some (.int 0), hG (hw m 99 8 (nI (tpl L n a))) ml pm) := by
  have kl := tkd_le L n a
  have e26 : w_X6_number_26 (nI lo) (nI hi) 0 (hG m ml pm) = some (some (.int 0), hG (hw m 99 8 (nI (tpl L n a))) ml pm) := by rw [e_X6_number_26, m_takesF ml pm h, bI_i, e_X6_number_29, ti.1]
  have c' := of_decide_eq_false c
  rw [e_X6_number, e_X6_number_25, e26, ti.2.2.1]
  by_cases q : tkd L n a = 4
  · have v9 := tkd_4 q
    rw [if_pos ((kdM_4 kl).mpr q), ti.2.2.2.1 q, x6_in, bI_i, e_X6_number_18, e_X6_number_25, e26, wi_ok (by omega) hl hh, if_neg (fun x => c' ⟨q, x⟩), if_pos rfl]
  · rw [if_neg (fun x => q ((kdM_4 kl).mp x))]
theorem m_numT {a lo hi : Nat} (ha : a ≤ n) (hl : lo ≤ 1000) (hh : hi ≤ 1000) {m : hM} (h : m 99 8 = -1) (mt : MT m L n) (ti : TI m L n a) (c : nok L n a lo hi = true) : ∃ m1 : hM, f_X6_number [.ref 99, .int (nI lo), .int (nI hi)] (hG m ml pm) = some (some (.int (nI (tvl L n a))), hG m1 ml pm) ∧ TI m1 L n (tnx L n a) ∧ (∀ j, j < 4 ∨ 7 < j → m1 99 j = m 99 j) ∧ ∀ c, c ≠ 99 → m1 c = m c := by
  have kl := tkd_le L n a
  have c' := of_decide_eq_true c
  have v9 := tkd_4 c'.1
  obtain ⟨m1, r1, r2, r3, r4⟩ := m_takesT ml pm ha h mt ti
  refine ⟨m1, ?_, r2, r3, r4⟩
  rw [e_X6_number, ti.2.2.1, if_pos ((kdM_4 kl).mpr c'.1), ti.2.2.2.1 c'.1, x6_in, bI_i, e_X6_number_18, wi_ok (by omega) hl hh, if_pos c'.2, if_neg (by decide), e_X6_number_26, r1, bI_i, e_X6_number_29, ti.2.2.2.1 c'.1]
end J1
