/-! the model's reader of tokens -/
def kdM (k : Nat) : Nat := if k = 0 then 0 else if k = 1 then 1 else if k = 2 then 1 else if k = 3 then 3 else if k = 4 then 2 else 4
theorem wd_y {x : Nat} (h : 48 ≤ x ∧ x ≤ 57) : wi3 (nI x) 48 57 = 1 := by
  unfold wi3
  rw [lit_nI 48, lit_nI 57, if_neg (nlt h.1 (by omega)), if_neg (nlt h.2 (by omega))]
theorem wd_n {x : Nat} (hx : x ≤ 255) (h : ¬ (48 ≤ x ∧ x ≤ 57)) : wi3 (nI x) 48 57 = 0 := by
  rw [wi3_0]
  intro c
  exact h ⟨(le_nI (a := 48) (by omega) (by omega)).mp c.1, (le_nI (b := 57) (by omega) (by omega)).mp c.2⟩
section T2
variable (ml : Nat → Nat → Int64) (pm : Nat → Option Nat) {L : Nat → Nat} {n : Nat}
theorem m_let {m : hM} (mt : MT m L n) {a : Nat} (ha : a < n) : f_X6_letterAt [.ref 99, .int (nI a)] (hG m ml pm) = some (some (.int (nI (L a))), hG m ml pm) := by
  have := mt.1
  rw [e_X6_letterAt, mt.2.1, if_neg (nle (by omega) (by omega)), if_pos (in_nI (by omega) (by omega)), cl_nI (by omega), (mt.2.2 a ha).1]
theorem m_let0 {m : hM} (mt : MT m L n) {a : Nat} (ha : n ≤ a) (hb : a ≤ 1000) : f_X6_letterAt [.ref 99, .int (nI a)] (hG m ml pm) = some (some (.int (-1)), hG m ml pm) := by
  rw [e_X6_letterAt, mt.2.1, if_pos (yle (by omega) (by omega))]
theorem m_tok0 : ∀ d a (m : hM), MT m L n → a + d = n → m 99 4 = nI a → ∃ m1 : hM, w_X6_advances_0 (hG m ml pm) = bI (f_X6_letterAt [.ref 99, .int (nI (skN L d a))] (hG (hw m1 99 6 (nI (skN L d a))) ml pm)) (fun x1 g2 => w_X6_advances_42 x1 g2) ∧ m1 99 4 = nI (skN L d a) ∧ (∀ j, j ≠ 4 → m1 99 j = m 99 j) ∧ ∀ c, c ≠ 99 → m1 c = m c := by
  intro d
  induction d with
  | zero =>
    intro a m mt ha h4
    have := mt.1
    rw [e_X6_advances_0, h4, m_let0 ml pm mt (by omega) (by omega), bI_i, e_X6_advances_8, if_neg (by decide), h4]
    exact ⟨m, rfl, h4, fun _ _ => rfl, fun _ _ => rfl⟩
  | succ d ih =>
    intro a m mt ha h4
    have := mt.1
    obtain ⟨lk, lb⟩ := mt.2.2 a (by omega)
    rw [e_X6_advances_0, h4, m_let ml pm mt (by omega), bI_i, e_X6_advances_8, h4, nI_1]
    by_cases q : L a = 32
    · have es : skN L (d + 1) a = skN L d (a + 1) := by
        show (if L a = 32 then skN L d (a + 1) else a) = _
        rw [if_pos q]
      rw [es, if_pos (show nI (L a) = 32 by rw [q]; rfl)]
      obtain ⟨m1, r1, r2, r4, r5⟩ := ih (a + 1) (hw m 99 4 (nI (a + 1))) (MT_fr mt (by rw [hw_k _ _ _ (by omega)]) (by rw [hw_oo _ _ _ (by omega)])) (by omega) (hw_c _ _ _ _)
      exact ⟨m1, r1, r2, fun j h1 => by rw [r4 j h1, hw_k _ _ _ h1], fun c hc => by rw [r5 c hc, hw_oo _ _ _ hc]⟩
    · have es : skN L (d + 1) a = a := by
        show (if L a = 32 then skN L d (a + 1) else a) = _
        rw [if_neg q]
      rw [es, if_neg (show ¬ nI (L a) = (32 : Int32) from fun c => q ((eq_nI (b := 32) (by omega) (by omega)).mp c))]
      exact ⟨m, rfl, h4, fun _ _ => rfl, fun _ _ => rfl⟩
theorem m_num71 (z : Int32) : ∀ d a v (m : hM), MT m L n → a + d = n → m 99 4 = nI a → m 99 7 = nI v → v ≤ 999 → ∃ m1 : hM, w_X6_advances_71 z (hG m ml pm) = w_X6_advances_86 z 0 (hG m1 ml pm) ∧ m1 99 4 = nI (dgN L d a) ∧ m1 99 7 = nI (vlN L d a v) ∧ (∀ j, j ≠ 4 → j ≠ 7 → m1 99 j = m 99 j) ∧ ∀ c, c ≠ 99 → m1 c = m c := by
  intro d
  induction d with
  | zero =>
    intro a v m mt ha h4 h7 hv
    have := mt.1
    rw [e_X6_advances_71, h4, m_let0 ml pm mt (by omega) (by omega), bI_i, e_X6_advances_79, x6_in, bI_i, show wi3 (-1) 48 57 = 0 from by decide]
    exact ⟨m, rfl, h4, h7, fun _ _ _ => rfl, fun _ _ => rfl⟩
  | succ d ih =>
    intro a v m mt ha h4 h7 hv
    have := mt.1
    obtain ⟨lk, lb⟩ := mt.2.2 a (by omega)
    rw [e_X6_advances_71, h4, m_let ml pm mt (by omega), bI_i, e_X6_advances_79, x6_in, bI_i]
    by_cases q : 48 ≤ L a ∧ L a ≤ 57
    · have e1 : dgN L (d + 1) a = dgN L d (a + 1) := by
        show (if 48 ≤ L a ∧ L a ≤ 57 then dgN L d (a + 1) else a) = _
        rw [if_pos q]
      have e2 : vlN L (d + 1) a v = vlN L d (a + 1) (if 99 < v then v else 10 * v + L a - 48) := by
        show (if 48 ≤ L a ∧ L a ≤ 57 then vlN L d (a + 1) (if 99 < v then v else 10 * v + L a - 48) else v) = _
        rw [if_pos q]
      have nx : ∀ x : Int32, x = nI (if 99 < v then v else 10 * v + L a - 48) → ∃ m1 : hM, w_X6_advances_125 z x (hG m ml pm) = w_X6_advances_86 z 0 (hG m1 ml pm) ∧ m1 99 4 = nI (dgN L (d + 1) a) ∧ m1 99 7 = nI (vlN L (d + 1) a v) ∧ (∀ j, j ≠ 4 → j ≠ 7 → m1 99 j = m 99 j) ∧ ∀ c, c ≠ 99 → m1 c = m c := by
        rintro x rfl
        rw [e_X6_advances_125, h4, nI_1, e1, e2]
        obtain ⟨m1, r1, r2, r3, r4, r5⟩ := ih (a + 1) (if 99 < v then v else 10 * v + L a - 48) (hw (hw m 99 7 (nI (if 99 < v then v else 10 * v + L a - 48))) 99 4 (nI (a + 1))) (MT_fr mt (by rw [hw_k _ _ _ (by omega), hw_k _ _ _ (by omega)]) (by rw [hw_oo _ _ _ (by omega), hw_oo _ _ _ (by omega)])) (by omega) (hw_c _ _ _ _) (by rw [hw_k _ _ _ (by omega), hw_c]) (by split <;> omega)
        exact ⟨m1, r1, r2, r3, fun j h1 h2 => by rw [r4 j h1 h2, hw_k _ _ _ h1, hw_k _ _ _ h2], fun c hc => by rw [r5 c hc, hw_oo _ _ _ hc, hw_oo _ _ _ hc]⟩
      rw [wd_y q, e_X6_advances_86, if_neg (by decide), h7, h4]
      by_cases v9 : v ≤ 99
      · rw [if_pos (show nI v ≤ (99 : Int32) from yle (b := 99) v9 (by omega)), m_let ml pm mt (by omega), bI_i, e_X6_advances_121]
        refine nx _ ?_
        rw [if_neg (by omega), lit_nI 10, lit_nI 48, pk_mul, nI_add, pk_sub (by omega)]
      · rw [if_neg (show ¬ nI v ≤ (99 : Int32) from nle (b := 99) (by omega) (by omega))]
        exact nx _ (by rw [if_pos (by omega)])
    · have e1 : dgN L (d + 1) a = a := by
        show (if 48 ≤ L a ∧ L a ≤ 57 then dgN L d (a + 1) else a) = _
        rw [if_neg q]
      have e2 : vlN L (d + 1) a v = v := by
        show (if 48 ≤ L a ∧ L a ≤ 57 then vlN L d (a + 1) (if 99 < v then v else 10 * v + L a - 48) else v) = _
        rw [if_neg q]
      rw [wd_n lb q, e1, e2]
      exact ⟨m, rfl, h4, h7, fun _ _ _ => rfl, fun _ _ => rfl⟩
/-- the model's next token -/
theorem m_token {a : Nat} (ha : a ≤ n) {m : hM} (mt : MT m L n) (h4 : m 99 4 = nI a) : ∃ m1 : hM, f_X6_advances [.ref 99] (hG m ml pm) = some (none, hG m1 ml pm) ∧ m1 99 6 = nI (tpl L n a) ∧ m1 99 4 = nI (tnx L n a) ∧ m1 99 5 = nI (kdM (tkd L n a)) ∧ ((tkd L n a = 4 → m1 99 7 = nI (tvl L n a)) ∧ (tkd L n a = 1 → m1 99 7 = nI 100) ∧ (tkd L n a = 2 → m1 99 7 = nI 119)) ∧ (∀ j, j < 4 ∨ 7 < j → m1 99 j = m 99 j) ∧ ∀ c, c ≠ 99 → m1 c = m c := by
  have hn := mt.1
  have pb := tpl_b L ha
  obtain ⟨m0, r1, r2, r3, r4⟩ := m_tok0 ml pm (n - a) a m mt (by omega) h4
  have r1' : w_X6_advances_0 (hG m ml pm) = bI (f_X6_letterAt [.ref 99, .int (nI (tpl L n a))] (hG (hw m0 99 6 (nI (tpl L n a))) ml pm)) (fun x1 g2 => w_X6_advances_42 x1 g2) := r1
  have r2' : m0 99 4 = nI (tpl L n a) := r2
  have mt0 : MT (hw m0 99 6 (nI (tpl L n a))) L n := MT_fr mt (by rw [hw_k _ _ _ (by omega), r3 3 (by omega)]) (by rw [hw_oo _ _ _ (by omega), r4 100 (by omega)])
  rw [e_X6_advances, r1']
  generalize hm : hw m0 99 6 (nI (tpl L n a)) = m2 at mt0 ⊢
  have g4 : m2 99 4 = nI (tpl L n a) := by rw [← hm, hw_k _ _ _ (by omega)]; exact r2'
  have g6 : m2 99 6 = nI (tpl L n a) := by rw [← hm, hw_c]
  have gj : ∀ j, j < 4 ∨ 7 < j → m2 99 j = m 99 j := fun j hj => by rw [← hm, hw_k _ _ _ (by omega)]; exact r3 j (by omega)
  have gc : ∀ c, c ≠ 99 → m2 c = m c := fun c hc => by rw [← hm, hw_oo _ _ _ hc, r4 c hc]
  unfold tnx tkd
  by_cases q : n ≤ tpl L n a
  · rw [m_let0 ml pm mt0 q (by omega), bI_i, e_X6_advances_42, if_neg (by decide), if_pos q, if_pos q]
    exact ⟨_, rfl, by rw [hw_k _ _ _ (by omega)]; exact g6, by rw [hw_k _ _ _ (by omega)]; exact g4, hw_c _ _ _ _, ⟨fun c => by omega, fun c => by omega, fun c => by omega⟩, fun j hj => by rw [hw_k _ _ _ (by omega)]; exact gj j hj, fun c hc => by rw [hw_oo _ _ _ hc, gc c hc]⟩
  · obtain ⟨lk, lb⟩ := mt0.2.2 (tpl L n a) (by omega)
    rw [m_let ml pm mt0 (by omega), bI_i, e_X6_advances_42, if_pos (show (0 : Int32) ≤ nI (L (tpl L n a)) from yle (a := 0) (by omega) (by omega)), x6_in, bI_i, e_X6_advances_63, if_neg q, if_neg q]
    by_cases q2 : 48 ≤ L (tpl L n a) ∧ L (tpl L n a) ≤ 57
    · rw [wd_y q2, if_neg (by decide), if_pos q2, if_pos q2]
      obtain ⟨m3, s1, s2, s3, s4, s5⟩ := m_num71 ml pm (nI (L (tpl L n a))) (n - tpl L n a) (tpl L n a) 0 (hw m2 99 7 0) (MT_fr mt0 (by rw [hw_k _ _ _ (by omega)]) (by rw [hw_oo _ _ _ (by omega)])) (by omega) (by rw [hw_k _ _ _ (by omega)]; exact g4) (hw_c _ _ _ _) (by omega)
      have s2' : m3 99 4 = nI (ten L n a) := s2
      have s3' : m3 99 7 = nI (tvl L n a) := s3
      have s6 : m3 99 6 = nI (tpl L n a) := by rw [s4 6 (by omega) (by omega), hw_k _ _ _ (by omega)]; exact g6
      have eb := ten_b L ha
      have vb : tvl L n a ≤ 999 := vlN_b L _ _ _ (by omega)
      have fj : ∀ x : Int32, ∀ j, j < 4 ∨ 7 < j → hw m3 99 5 x 99 j = m 99 j := fun x j hj => by rw [hw_k _ _ _ (by omega), s4 j (by omega) (by omega), hw_k _ _ _ (by omega)]; exact gj j hj
      have fc : ∀ x : Int32, ∀ c, c ≠ 99 → hw m3 99 5 x c = m c := fun x c hc => by rw [hw_oo _ _ _ hc, s5 c hc, hw_oo _ _ _ hc, gc c hc]
      have bad : (99 < tvl L n a ∨ (L (tpl L n a) = 48 ∧ 1 < ten L n a - tpl L n a)) → ∃ m1 : hM, (some (none, hG (hw m3 99 5 4) ml pm) : Option sx_R) = some (none, hG m1 ml pm) ∧ m1 99 6 = nI (tpl L n a) ∧ m1 99 4 = nI (ten L n a) ∧ m1 99 5 = nI (kdM (if 99 < tvl L n a ∨ (L (tpl L n a) = 48 ∧ 1 < ten L n a - tpl L n a) then 5 else 4)) ∧ (((if 99 < tvl L n a ∨ (L (tpl L n a) = 48 ∧ 1 < ten L n a - tpl L n a) then 5 else 4) = 4 → m1 99 7 = nI (tvl L n a)) ∧ ((if 99 < tvl L n a ∨ (L (tpl L n a) = 48 ∧ 1 < ten L n a - tpl L n a) then 5 else 4) = 1 → m1 99 7 = nI 100) ∧ ((if 99 < tvl L n a ∨ (L (tpl L n a) = 48 ∧ 1 < ten L n a - tpl L n a) then 5 else 4) = 2 → m1 99 7 = nI 119)) ∧ (∀ j, j < 4 ∨ 7 < j → m1 99 j = m 99 j) ∧ ∀ c, c ≠ 99 → m1 c = m c := by
        intro w
        rw [if_pos w]
        exact ⟨_, rfl, by rw [hw_k _ _ _ (by omega)]; exact s6, by rw [hw_k _ _ _ (by omega)]; exact s2', hw_c _ _ _ _, ⟨fun c => by omega, fun c => by omega, fun c => by omega⟩, fj _, fc _⟩
      have good : ¬ (99 < tvl L n a ∨ (L (tpl L n a) = 48 ∧ 1 < ten L n a - tpl L n a)) → ∃ m1 : hM, (some (none, hG (hw m3 99 5 2) ml pm) : Option sx_R) = some (none, hG m1 ml pm) ∧ m1 99 6 = nI (tpl L n a) ∧ m1 99 4 = nI (ten L n a) ∧ m1 99 5 = nI (kdM (if 99 < tvl L n a ∨ (L (tpl L n a) = 48 ∧ 1 < ten L n a - tpl L n a) then 5 else 4)) ∧ (((if 99 < tvl L n a ∨ (L (tpl L n a) = 48 ∧ 1 < ten L n a - tpl L n a) then 5 else 4) = 4 → m1 99 7 = nI (tvl L n a)) ∧ ((if 99 < tvl L n a ∨ (L (tpl L n a) = 48 ∧ 1 < ten L n a - tpl L n a) then 5 else 4) = 1 → m1 99 7 = nI 100) ∧ ((if 99 < tvl L n a ∨ (L (tpl L n a) = 48 ∧ 1 < ten L n a - tpl L n a) then 5 else 4) = 2 → m1 99 7 = nI 119)) ∧ (∀ j, j < 4 ∨ 7 < j → m1 99 j = m 99 j) ∧ ∀ c, c ≠ 99 → m1 c = m c := by
        intro w
        rw [if_neg w]
        exact ⟨_, rfl, by rw [hw_k _ _ _ (by omega)]; exact s6, by rw [hw_k _ _ _ (by omega)]; exact s2', hw_c _ _ _ _, ⟨fun _ => by rw [hw_k _ _ _ (by omega)]; exact s3', fun c => by omega, fun c => by omega⟩, fj _, fc _⟩
      rw [s1, e_X6_advances_86, if_pos rfl, s3', s2', s6, pk_sub eb.1]
      by_cases v9 : 99 < tvl L n a
      · rw [if_pos (show (99 : Int32) < nI (tvl L n a) from ylt (a := 99) v9 (by omega))]
        exact bad (Or.inl v9)
      · rw [if_neg (show ¬ (99 : Int32) < nI (tvl L n a) from fun c => v9 ((lt_nI (a := 99) (by omega) (by omega)).mp c))]
        by_cases z0 : L (tpl L n a) = 48
        · rw [if_pos (show nI (L (tpl L n a)) = 48 by rw [z0]; rfl)]
          by_cases l1 : ten L n a - tpl L n a ≤ 1
          · rw [if_pos (show nI (ten L n a - tpl L n a) ≤ (1 : Int32) from yle (b := 1) l1 (by omega))]
            exact good (fun c => by omega)
          · rw [if_neg (show ¬ nI (ten L n a - tpl L n a) ≤ (1 : Int32) from nle (b := 1) (by omega) (by omega))]
            exact bad (Or.inr ⟨z0, by omega⟩)
        · rw [if_neg (show ¬ nI (L (tpl L n a)) = (48 : Int32) from fun c => z0 ((eq_nI (b := 48) (by omega) (by omega)).mp c))]
          exact good (fun c => by omega)
    · rw [wd_n lb q2, if_pos rfl, if_neg q2, if_neg q2, g4, nI_1]
      have fin : ∀ x : Nat, ∃ m1 : hM, (some (none, hG (hw (hw (hw m2 99 4 (nI (tpl L n a + 1))) 99 7 (nI (L (tpl L n a)))) 99 5 (nI x)) ml pm) : Option sx_R) = some (none, hG m1 ml pm) ∧ m1 99 6 = nI (tpl L n a) ∧ m1 99 4 = nI (tpl L n a + 1) ∧ m1 99 5 = nI x ∧ m1 99 7 = nI (L (tpl L n a)) ∧ (∀ j, j < 4 ∨ 7 < j → m1 99 j = m 99 j) ∧ ∀ c, c ≠ 99 → m1 c = m c := fun x =>
        ⟨_, rfl, by rw [hw_k _ _ _ (by omega), hw_k _ _ _ (by omega), hw_k _ _ _ (by omega)]; exact g6, by rw [hw_k _ _ _ (by omega), hw_k _ _ _ (by omega), hw_c], hw_c _ _ _ _, by rw [hw_k _ _ _ (by omega), hw_c], fun j hj => by rw [hw_k _ _ _ (by omega), hw_k _ _ _ (by omega), hw_k _ _ _ (by omega)]; exact gj j hj, fun c hc => by rw [hw_oo _ _ _ hc, hw_oo _ _ _ hc, hw_oo _ _ _ hc, gc c hc]⟩
      have ne : ∀ x : Nat, x ≤ 200 → ¬ L (tpl L n a) = x → ¬ nI (L (tpl L n a)) = nI x := fun x hx h c => h ((eq_nI (by omega) (by omega)).mp c)
      by_cases c1 : L (tpl L n a) = 59
      · rw [if_pos (show nI (L (tpl L n a)) = 59 by rw [c1]; rfl), if_pos c1]
        obtain ⟨m1, t1, t2, t3, t4, t5, t6, t7⟩ := fin 3
        exact ⟨m1, t1, t2, t3, t4, ⟨fun c => by omega, fun c => by omega, fun c => by omega⟩, t6, t7⟩
      · rw [if_neg (show ¬ nI (L (tpl L n a)) = (59 : Int32) from ne 59 (by omega) c1), if_neg c1]
        by_cases c2 : L (tpl L n a) = 100
        · rw [if_pos (show nI (L (tpl L n a)) = 100 by rw [c2]; rfl), if_pos c2]
          obtain ⟨m1, t1, t2, t3, t4, t5, t6, t7⟩ := fin 1
          exact ⟨m1, t1, t2, t3, t4, ⟨fun c => by omega, fun c => by rw [t5, c2], fun c => by omega⟩, t6, t7⟩
        · rw [if_neg (show ¬ nI (L (tpl L n a)) = (100 : Int32) from ne 100 (by omega) c2), if_neg c2]
          by_cases c3 : L (tpl L n a) = 119
          · rw [if_pos (show nI (L (tpl L n a)) = 119 by rw [c3]; rfl), if_pos c3]
            obtain ⟨m1, t1, t2, t3, t4, t5, t6, t7⟩ := fin 1
            exact ⟨m1, t1, t2, t3, t4, ⟨fun c => by omega, fun c => by omega, fun c => by rw [t5, c3]⟩, t6, t7⟩
          · rw [if_neg (show ¬ nI (L (tpl L n a)) = (119 : Int32) from ne 119 (by omega) c3), if_neg c3]
            obtain ⟨m1, t1, t2, t3, t4, t5, t6, t7⟩ := fin 4
            exact ⟨m1, t1, t2, t3, t4, ⟨fun c => by omega, fun c => by omega, fun c => by omega⟩, t6, t7⟩
end T2
