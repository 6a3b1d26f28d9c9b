/-! longest -/
def Top (S : pS) (v x : Nat) : Prop := (∀ k r, Row (S 5 2) (Bv S v) (k + 1) r → sW (Bv S v) (S 3) r (k + 1) ≤ x) ∧ (x = 0 ∨ ∃ k r, Row (S 5 2) (Bv S v) (k + 1) r ∧ sW (Bv S v) (S 3) r (k + 1) = x)
theorem enc_ee {a b : Nat} (ha : a ≤ 1000) (hb : b ≤ 1000) : enc a ≤ enc b ↔ a ≤ b := by
  cases a with
  | zero =>
    refine ⟨fun _ => by omega, fun _ => ?_⟩
    cases b with
    | zero => exact Int32.le_refl _
    | succ b =>
      rw [enc_0, enc_s, Int32.le_iff_toInt_le, nI_toInt (by omega), show (-9 : Int32).toInt = -9 from by decide]
      omega
  | succ a => rw [enc_s, enc_le (by omega) hb]; omega
section E2
variable {S : pS} {ml : Nat → Nat → Int64} {pm : Nat → Option Nat} {T : Int64}
theorem Top_u {v x y : Nat} (h : Top S v x) (h' : Top S v y) : x = y := by
  rcases h.2 with z | ⟨k, r, h1, e⟩
  · rcases h'.2 with z' | ⟨k, r, h1, e⟩
    · omega
    · have := h.1 k r h1; omega
  · have a := h'.1 k r h1
    rcases h'.2 with z' | ⟨k', r', h1', e'⟩
    · omega
    · have := h.1 k' r' h1'; omega
theorem Top_e (ok : Ok S) (v : Nat) : ∃ x, Top S v x := by
  rcases first_or (fun i => ∃ k r, Row (S 5 2) (Bv S v) (k + 1) r ∧ sW (Bv S v) (S 3) r (k + 1) = 210 - i) 210 with h | ⟨j, hj, h1, h2⟩
  · refine ⟨0, fun k r h1 => ?_, Or.inl rfl⟩
    have b := W_b ok h1
    exact absurd ⟨k, r, h1, by omega⟩ (h (210 - sW (Bv S v) (S 3) r (k + 1)) (by omega))
  · refine ⟨210 - j, fun k r h3 => ?_, Or.inr h1⟩
    have b := W_b ok h3
    rcases Nat.lt_or_ge (210 - j) (sW (Bv S v) (S 3) r (k + 1)) with q | q
    · exact absurd ⟨k, r, h3, by omega⟩ (h2 (210 - sW (Bv S v) (S 3) r (k + 1)) (by omega))
    · exact q
theorem c_mostInches (ok : Ok S) {m : hM} {v x : Nat} (tt : TT S v m 128 0) (tp : Top S v x) : f_X1_mostInches [.ref 20] (hG m ml pm) = some (some (.int (nI x)), hG m ml pm) := by
  have F7 := ok.F7
  have key : ∀ d i acc, i + d = 896 → (∀ k r, Row (S 5 2) (Bv S v) (k + 1) r → ∀ s, s < 128 → isS s (k + 1) r → s * 7 + r 0 < i → sW (Bv S v) (S 3) r (k + 1) ≤ acc) → (acc = 0 ∨ ∃ k r, Row (S 5 2) (Bv S v) (k + 1) r ∧ sW (Bv S v) (S 3) r (k + 1) = acc) → ∃ y, w_X1_mostInches_4 (nI acc) (nI i) (hG m ml pm) = some (some (.int (nI y)), hG m ml pm) ∧ Top S v y := by
    intro d
    induction d with
    | zero =>
      intro i acc hi h1 h2
      rw [e_X1_mostInches_4, if_pos (show (896 : Int32) ≤ nI i from yle (a := 896) (by omega) (by omega))]
      refine ⟨acc, rfl, fun k r h => ?_, h2⟩
      have b : setN r (k + 1) < 128 := setN_b (fun j hj => by have := ok.pF (h.1 j hj); omega)
      have r7 := ok.pF (h.1 0 (by omega))
      exact h1 k r h _ b (setN_S r (k + 1)) (by omega)
    | succ d ih =>
      intro i acc hi h1 h2
      have ab : acc ≤ 210 := by
        rcases h2 with z | ⟨k, r, h, e⟩
        · omega
        · have := (W_b ok h).1; omega
      obtain ⟨y, hy, mx⟩ := tt (i / 7) (i % 7) (by omega) (by omega) (by omega)
      rw [show i / 7 * 7 + i % 7 = i by omega] at hy
      have yb := isMx_b ok mx
      rw [e_X1_mostInches_4, if_neg (show ¬ (896 : Int32) ≤ nI i from fun c => absurd ((le_nI (a := 896) (by omega) (by omega)).mp c) (by omega)), if_pos (in_nI (by omega) (by omega)), cl_nI (by omega), hy, nI_1]
      have em : (if nI acc < nI y then nI y else nI acc) = nI (if acc < y then y else acc) := by
        by_cases q : acc < y
        · rw [if_pos (ylt q (by omega)), if_pos q]
        · rw [if_neg (nlt (by omega) (by omega)), if_neg q]
      rw [em]
      refine ih (i + 1) _ (by omega) (fun k r h s hs hS hlt => ?_) ?_
      · have r7 := ok.pF (h.1 0 (by omega))
        by_cases q : s * 7 + r 0 = i
        · have e1 : s = i / 7 := by omega
          have e2 : r 0 = i % 7 := by omega
          rw [e1] at hS
          have := mx.1 k r h hS e2
          split <;> omega
        · have := h1 k r h s hs hS (by omega)
          split <;> omega
      · by_cases q : acc < y
        · rw [if_pos q]
          rcases mx.2 with z | ⟨k, r, g1, g2, g3, g4⟩
          · omega
          · exact Or.inr ⟨k, r, g1, g4⟩
        · rw [if_neg q]; exact h2
  obtain ⟨y, r1, r2⟩ := key 896 0 0 (by omega) (fun k r h s hs hS hlt => by omega) (Or.inl rfl)
  rw [e_X1_mostInches, ← Top_u r2 tp]
  exact r1
def LI (S : pS) (v i z : Nat) (l : Int32) : Prop := (∀ k r, k < i → Row (S 5 2) (Bv S v) (k + 1) r → sW (Bv S v) (S 3) r (k + 1) < z) ∧ ((z = 0 ∧ l = -9) ∨ ∃ j, j < i ∧ l = nI (j + 1) ∧ (∃ r, Row (S 5 2) (Bv S v) (j + 1) r ∧ sW (Bv S v) (S 3) r (j + 1) + 1 = z) ∧ ∀ k r, k < j → Row (S 5 2) (Bv S v) (k + 1) r → sW (Bv S v) (S 3) r (k + 1) + 1 < z)
theorem m_long41 (ok : Ok S) (w : Int32) {v : Nat} {m : hM} (km : Ml m ml S T) (tt : MTT S v m 128 0) : ∀ d i z l, i + d = 7 → LI S v i z l → ∃ z' l', w_X6_longest_41 (nI v) w (enc z) l (nI (i + 1)) (hG m ml pm) = some (some (.int (if w = 0 then enc z' else l')), hG m ml pm) ∧ LI S v 7 z' l' := by
  intro d
  induction d with
  | zero =>
    intro i z l hi li
    rw [e_X6_longest_41, if_pos (show (8 : Int32) ≤ nI (i + 1) from yle (a := 8) (by omega) (by omega))]
    refine ⟨z, l, ?_, ?_⟩
    · split <;> rfl
    · rw [← show i = 7 by omega]; exact li
  | succ d ih =>
    intro i z l hi li
    obtain ⟨z', s1, s2⟩ := m_mostOf (pm := pm) ok (show i < 7 by omega) km tt
    have zb' := isMo_b ok s2
    have zb : z ≤ 211 := by
      rcases li.2 with q | ⟨j, q1, q2, ⟨r, q3, q4⟩, q5⟩
      · omega
      · have := (W_b ok q3).1; omega
    rw [e_X6_longest_41, if_neg (show ¬ (8 : Int32) ≤ nI (i + 1) from fun c => absurd ((le_nI (a := 8) (by omega) (by omega)).mp c) (by omega)), s1, bI_i, e_X6_longest_54]
    by_cases q : z' ≤ z
    · rw [if_pos ((enc_ee (by omega) (by omega)).mpr q), e_X6_longest_69, if_pos ((enc_ee (by omega) (by omega)).mpr q), nI_1]
      refine ih (i + 1) z l (by omega) ⟨fun k r hk h => ?_, ?_⟩
      · by_cases e : k = i
        · subst e; have := s2.1 r h; omega
        · exact li.1 k r (by omega) h
      · rcases li.2 with q | ⟨j, q1, q2, q3, q5⟩
        · exact Or.inl q
        · exact Or.inr ⟨j, by omega, q2, q3, q5⟩
    · rw [if_neg (fun c => q ((enc_ee (by omega) (by omega)).mp c)), e_X6_longest_69, if_neg (fun c => q ((enc_ee (by omega) (by omega)).mp c)), nI_1]
      refine ih (i + 1) z' _ (by omega) ⟨fun k r hk h => ?_, Or.inr ⟨i, by omega, rfl, ?_, fun k r hk h => ?_⟩⟩
      · by_cases e : k = i
        · subst e; exact s2.1 r h
        · have := li.1 k r (by omega) h; omega
      · rcases s2.2 with z0 | hh
        · omega
        · exact hh
      · have := li.1 k r hk h; omega
end E2
theorem bit_e {p : Nat} (h : ¬ p = 0) : ∃ f, p.testBit f = true := by
  refine Classical.byContradiction (fun hn => h ?_)
  apply Nat.eq_of_testBit_eq
  intro g
  rw [Nat.zero_testBit]
  cases q : p.testBit g with
  | false => rfl
  | true => exact absurd ⟨g, q⟩ hn
theorem b_longest {S : pS} (ok : Ok S) (T : Int64) (a b : Int32) : ∃ v S' T', Both (f_X5_longest [.ref 0, .int a, .int b]) (f_X6_longest [.ref 99, .int a, .int b]) S T v S' T' := by
  by_cases h : wi3 a 0 99 = 0
  · refine ⟨-1, S, T, Both_q ok (fun mi ml pm k => ?_) (fun mi ml pm k => ?_)⟩
    · rw [e_X5_longest, x5_isHold, bI_i, e_X5_longest_4, if_pos h]
    · rw [e_X6_longest, x6_in, bI_i, e_X6_longest_12, if_pos h]
  by_cases h2 : wi3 b 0 1 = 0
  · refine ⟨-1, S, T, Both_q ok (fun mi ml pm k => ?_) (fun mi ml pm k => ?_)⟩
    · rw [e_X5_longest, x5_isHold, bI_i, e_X5_longest_4, if_neg h, x5_isWithin, bI_i, e_X5_longest_13, if_pos h2]
    · rw [e_X6_longest, x6_in, bI_i, e_X6_longest_12, if_neg h, x6_in, bI_i, e_X6_longest_21, if_pos h2]
  obtain ⟨v, -, hv, rfl⟩ := nat_of (b := 0) (n := 99) (by omega) h (by omega)
  have M : ∀ (mi : hM) ml pm, Ml mi ml S T → ∃ (m1 : hM) (z : Nat) (l : Int32), f_X6_longest [.ref 99, .int (nI v), .int b] (hG mi ml pm) = some (some (.int (if b = 0 then enc z else l)), hG m1 ml pm) ∧ (∀ c, c ≠ 111 → m1 c = hw mi 99 0 0 c) ∧ LI S v 7 z l := by
    intro mi ml pm k
    have km := Ml_th (0 : Int32) k
    obtain ⟨m1, r1, r2, r3⟩ := m_puts (pm := pm) km ok hv
    have k1 : Ml m1 ml S T := Ml_fx km (fun c h _ => r2 c h)
    obtain ⟨z, l, s1, s2⟩ := m_long41 (pm := pm) ok b k1 r3 7 0 0 (-9) (by omega) ⟨fun k r hk => by omega, Or.inl ⟨rfl, rfl⟩⟩
    refine ⟨m1, z, l, ?_, r2, s2⟩
    rw [e_X6_longest, x6_in, bI_i, e_X6_longest_12, if_neg h, x6_in, bI_i, e_X6_longest_21, if_neg h2, r1, bV_v, e_X6_longest_31]
    exact s1
  have pk := ok.pk
  by_cases z : S 5 2 = 0
  · refine ⟨-9, S, T, fun mi ml pm k => ?_, fun mi ml pm k => ?_, ok⟩
    · apply CO_q k
      rw [e_X5_longest, x5_isHold, bI_i, e_X5_longest_4, if_neg h, x5_isWithin, bI_i, e_X5_longest_13, if_neg h2, c_pk k, if_pos (show nI (S 5 2) = 0 by rw [z]; rfl)]
    · obtain ⟨m1, zz, l, r1, r2, r3⟩ := M mi ml pm k
      have no : ∀ k r, ¬ Row (S 5 2) (Bv S v) (k + 1) r := fun k r hr => by
        have := hr.1 0 (by omega)
        rw [z, Nat.zero_testBit] at this; cases this
      have e : zz = 0 ∧ l = -9 := by
        rcases r3.2 with q | ⟨j, _, _, ⟨r, q, _⟩, _⟩
        · exact q
        · exact absurd q (no j r)
      rw [r1, e.1, e.2]
      have ev : (if b = 0 then enc 0 else -9) = (-9 : Int32) := by split <;> rfl
      rw [ev]
      exact ⟨m1, ml, rfl, Ml_fx (Ml_th (0 : Int32) k) (fun c h _ => r2 c h), fun c hc => by rw [r2 c (by omega), ml0 mi 0 c hc], rfl⟩
  · obtain ⟨x, tp⟩ := Top_e ok v
    obtain ⟨f, hf⟩ := bit_e z
    have x1 : 1 ≤ x := by
      have row : Row (S 5 2) (Bv S v) (0 + 1) (fun _ => f) := ⟨fun i _ => hf, fun i j hi hj _ => by omega, fun i hi => by omega⟩
      have h3 := tp.1 0 (fun _ => f) row
      have h4 := (W_b ok row).2.1
      omega
    have xb : x ≤ 210 := by
      rcases tp.2 with q | ⟨k, r, h1, e⟩
      · omega
      · have := (W_b ok h1).1; omega
    have ex : ∃ j, j < 7 ∧ Has S v x (j + 1) ∧ ∀ i, i < j → ¬ Has S v x (i + 1) := by
      rcases first_or (fun k => Has S v x (k + 1)) 7 with q | q
      · rcases tp.2 with c | ⟨k, r, h1, e⟩
        · omega
        · have := (W_b ok h1).2.2.1
          exact absurd ⟨r, h1, by omega⟩ (q k (by omega))
      · exact q
    obtain ⟨j, hj, q1, q2⟩ := ex
    refine ⟨if b = 0 then nI x else nI (j + 1), S, T, fun mi ml pm k => ?_, fun mi ml pm k => ?_, ok⟩
    · obtain ⟨m1, r1, r2, r3⟩ := c_prepare k ok hv
      rw [e_X5_longest, x5_isHold, bI_i, e_X5_longest_4, if_neg h, x5_isWithin, bI_i, e_X5_longest_13, if_neg h2, c_pk k, if_neg (nz z (by omega)), r1, bV_v, e_X5_longest_47, c_mostInches ok r3.2.2 tp, bI_i, e_X5_longest_54, (c_fewest ok r3.2.2 (by omega) x1).2 j hj q1 q2, bI_i, e_X5_longest_71]
      refine ⟨m1, ml, pm, ?_, Cl_fx k (fun c hc => r2 c (by omega)), fun c hc => r2 c (by omega), rfl⟩
      split <;> rfl
    · obtain ⟨m1, zz, l, r1, r2, r3⟩ := M mi ml pm k
      have e : zz = x + 1 ∧ l = nI (j + 1) := by
        rcases r3.2 with ⟨e0, _⟩ | ⟨j', a1, a2, ⟨r, a3, a4⟩, a5⟩
        · obtain ⟨r, h1, _⟩ := q1
          have := r3.1 j r hj h1; omega
        · have u1 := tp.1 j' r a3
          have u2 : zz = x + 1 := by
            rcases tp.2 with c | ⟨k2, r2', h1, e⟩
            · omega
            · have b7 := (W_b ok h1).2.2.1
              have := r3.1 k2 r2' (by omega) h1; omega
          refine ⟨u2, ?_⟩
          have u3 : j' = j := by
            rcases Nat.lt_trichotomy j' j with q | q | q
            · exact absurd ⟨r, a3, by omega⟩ (q2 j' q)
            · exact q
            · obtain ⟨r', h1, h3⟩ := q1
              have := a5 j r' q h1; omega
          rw [a2, u3]
      rw [r1, e.1, e.2, enc_s]
      exact ⟨m1, ml, rfl, Ml_fx (Ml_th (0 : Int32) k) (fun c h _ => r2 c h), fun c hc => by rw [r2 c (by omega), ml0 mi 0 c hc], rfl⟩
