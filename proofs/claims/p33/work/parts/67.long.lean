/-! fewest, longest -/
def Has (S : pS) (v n k : Nat) : Prop := ∃ r, Row (S 5 2) (Bv S v) k r ∧ n ≤ sW (Bv S v) (S 3) r k
def rsq (S : pS) (v n s : Nat) : Prop := ∃ k r, Row (S 5 2) (Bv S v) (k + 1) r ∧ isS s (k + 1) r ∧ n ≤ sW (Bv S v) (S 3) r (k + 1)
section E1
variable {S : pS} {ml : Nat → Nat → Int64} {pm : Nat → Option Nat} {T : Int64}
theorem Has_s (ok : Ok S) {v n k : Nat} (h : Has S v n (k + 1)) : ∃ s, 1 ≤ s ∧ s < 128 ∧ pc s = k + 1 ∧ rsq S v n s := by
  obtain ⟨r, h1, h2⟩ := h
  have F7 := ok.F7
  have b : setN r (k + 1) < 128 := setN_b (fun i hi => by have := ok.pF (h1.1 i hi); omega)
  have hS := setN_S r (k + 1)
  refine ⟨setN r (k + 1), ?_, b, isS_pc b h1 hS, k, r, h1, hS, h2⟩
  rcases Nat.eq_zero_or_pos (setN r (k + 1)) with z | z
  · have := (hS (r 0)).mpr ⟨0, by omega, rfl⟩
    rw [z, Nat.zero_testBit] at this; cases this
  · exact z
theorem rsq_h {v n s : Nat} (hs : s < 128) (h : rsq S v n s) : ∃ k, pc s = k + 1 ∧ Has S v n (k + 1) := by
  obtain ⟨k, r, h1, h2, h3⟩ := h
  exact ⟨k, isS_pc hs h1 h2, r, h1, h3⟩
theorem c_reaches (ok : Ok S) {m : hM} {v n s : Nat} (tt : TT S v m 128 0) (hn : n ≤ 1000) (hs : s < 128) (h0 : 1 ≤ n) : ∃ b : Bool, f_X1_reaches [.ref 20, .int (nI s), .int (nI n)] (hG m ml pm) = some (some (.int (b01 b)), hG m ml pm) ∧ (b = true ↔ rsq S v n s) := by
  have F7 := ok.F7
  rw [e_X1_reaches]
  have key : ∀ d f, f + d = 7 → (∀ k r, Row (S 5 2) (Bv S v) (k + 1) r → isS s (k + 1) r → r 0 < f → ¬ n ≤ sW (Bv S v) (S 3) r (k + 1)) → ∃ b : Bool, w_X1_reaches_2 (nI s) (nI n) (nI f) (hG m ml pm) = some (some (.int (b01 b)), hG m ml pm) ∧ (b = true ↔ rsq S v n s) := by
    intro d
    induction d with
    | zero =>
      intro f hf h
      rw [e_X1_reaches_2, if_pos (show (7 : Int32) ≤ nI f from yle (a := 7) (by omega) (by omega))]
      refine ⟨false, rfl, (fun c => by cases c), fun ⟨k, r, h1, h2, h3⟩ => absurd h3 (h k r h1 h2 ?_)⟩
      have := ok.pF (h1.1 0 (by omega)); omega
    | succ d ih =>
      intro f hf h
      obtain ⟨x, hx, mx⟩ := tt s f hs (by omega) (by omega)
      have xb := isMx_b ok mx
      rw [e_X1_reaches_2, if_neg (show ¬ (7 : Int32) ≤ nI f from fun c => absurd ((le_nI (a := 7) (by omega) (by omega)).mp c) (by omega)), lit_nI 7, pk_mul, nI_add, if_pos (in_nI (by omega) (by omega)), cl_nI (by omega), hx, nI_1]
      by_cases q : x < n
      · rw [if_pos (ylt q (by omega))]
        refine ih (f + 1) (by omega) (fun k r h1 h2 h3 => ?_)
        by_cases e : r 0 = f
        · have := mx.1 k r h1 h2 e; omega
        · exact h k r h1 h2 (by omega)
      · rw [if_neg (nlt (by omega) (by omega))]
        refine ⟨true, rfl, fun _ => ?_, fun _ => rfl⟩
        rcases mx.2 with z | ⟨k, r, h1, h2, h3, h4⟩
        · omega
        · exact ⟨k, r, h1, h2, by omega⟩
  exact key 7 0 (by omega) (fun _ _ _ _ c => by omega)
def FwI (S : pS) (v n s : Nat) (z : Int32) : Prop := (z = -9 ∧ ∀ s', 1 ≤ s' → s' < s → ¬ rsq S v n s') ∨ (∃ k, z = nI k ∧ k ≤ 7 ∧ (∃ s', s' < 128 ∧ rsq S v n s' ∧ pc s' = k) ∧ ∀ s', 1 ≤ s' → s' < s → rsq S v n s' → k ≤ pc s')
theorem c_few5 (ok : Ok S) {m : hM} {v n : Nat} (tt : TT S v m 128 0) (hn : n ≤ 1000) (h0 : 1 ≤ n) : ∀ d s z, s + d = 128 → 1 ≤ s → FwI S v n s z → ∃ z', w_X1_fewestFlowers_5 (nI n) z (nI s) (hG m ml pm) = some (some (.int z'), hG m ml pm) ∧ FwI S v n 128 z' := by
  intro d
  induction d with
  | zero =>
    intro s z hs _ fi
    rw [e_X1_fewestFlowers_5, if_pos (show (128 : Int32) ≤ nI s from yle (a := 128) (by omega) (by omega))]
    refine ⟨z, rfl, ?_⟩
    rw [← show s = 128 by omega]; exact fi
  | succ d ih =>
    intro s z hs h1 fi
    have pb := pc_b s
    rw [e_X1_fewestFlowers_5, if_neg (show ¬ (128 : Int32) ≤ nI s from fun c => absurd ((le_nI (a := 128) (by omega) (by omega)).mp c) (by omega)), bitCount (by omega), bI_i, e_X1_fewestFlowers_16, nI_1]
    obtain ⟨b, hb, hb2⟩ := c_reaches (ml := ml) (pm := pm) ok tt hn (show s < 128 by omega) h0
    have e30 : (z = -9 ∨ ∃ k, z = nI k ∧ k ≤ 7 ∧ pc s < k) → ∃ z', w_X1_fewestFlowers_30 (nI n) z (nI s) (nI (pc s)) (hG m ml pm) = some (some (.int z'), hG m ml pm) ∧ FwI S v n 128 z' := by
      intro hz
      rw [e_X1_fewestFlowers_30, hb, bI_i, e_X1_fewestFlowers_36, nI_1]
      cases b with
      | true =>
        rw [if_neg (by decide)]
        refine ih (s + 1) _ (by omega) (by omega) (Or.inr ⟨pc s, rfl, pb, ⟨s, by omega, hb2.mp rfl, rfl⟩, fun s' a1 a2 a3 => ?_⟩)
        by_cases e : s' = s
        · rw [e]; exact Nat.le_refl _
        · rcases fi with ⟨f1, f2⟩ | ⟨k, f1, f2, f3, f4⟩
          · exact absurd a3 (f2 s' a1 (by omega))
          · have g := f4 s' a1 (by omega) a3
            rcases hz with hz | ⟨k', hz, k7, hlt⟩
            · rw [f1] at hz; exact absurd hz (n9 (by omega))
            · rw [f1] at hz
              have := (eq_nI (by omega) (by omega)).mp hz
              omega
      | false =>
        rw [if_pos (by decide)]
        have nr : ¬ rsq S v n s := fun c => by have := hb2.mpr c; cases this
        refine ih (s + 1) z (by omega) (by omega) ?_
        rcases fi with ⟨f1, f2⟩ | ⟨k, f1, f2, f3, f4⟩
        · refine Or.inl ⟨f1, fun s' a1 a2 => ?_⟩
          by_cases e : s' = s
          · rw [e]; exact nr
          · exact f2 s' a1 (by omega)
        · refine Or.inr ⟨k, f1, f2, f3, fun s' a1 a2 a3 => ?_⟩
          by_cases e : s' = s
          · rw [e] at a3; exact absurd a3 nr
          · exact f4 s' a1 (by omega) a3
    rcases fi with ⟨f1, f2⟩ | ⟨k, f1, f2, f3, f4⟩
    · rw [if_pos f1]; exact e30 (Or.inl f1)
    · rw [f1, if_neg (n9 (by omega))]
      rw [f1] at e30
      by_cases q : k ≤ pc s
      · rw [if_pos (yle q (by omega))]
        refine ih (s + 1) _ (by omega) (by omega) (Or.inr ⟨k, rfl, f2, f3, fun s' a1 a2 a3 => ?_⟩)
        by_cases e : s' = s
        · rw [e]; exact q
        · exact f4 s' a1 (by omega) a3
      · rw [if_neg (nle (by omega) (by omega))]
        exact e30 (Or.inr ⟨k, rfl, f2, by omega⟩)
/-- the class's fewest: the least size that has a row of n inches -/
theorem c_fewest (ok : Ok S) {m : hM} {v n : Nat} (tt : TT S v m 128 0) (hn : n ≤ 1000) (h0 : 1 ≤ n) : ((∀ k, k < 7 → ¬ Has S v n (k + 1)) → f_X1_fewestFlowers [.ref 20, .int (nI n)] (hG m ml pm) = some (some (.int (-9)), hG m ml pm)) ∧ (∀ k, k < 7 → Has S v n (k + 1) → (∀ j, j < k → ¬ Has S v n (j + 1)) → f_X1_fewestFlowers [.ref 20, .int (nI n)] (hG m ml pm) = some (some (.int (nI (k + 1))), hG m ml pm)) := by
  obtain ⟨z, r1, r2⟩ := c_few5 (ml := ml) (pm := pm) ok tt hn h0 127 1 (-9) (by omega) (by omega) (Or.inl ⟨rfl, fun s' a1 a2 => by omega⟩)
  rw [e_X1_fewestFlowers, show (1 : Int32) = nI 1 from rfl, r1]
  refine ⟨fun h => ?_, fun k hk h1 h2 => ?_⟩
  · rcases r2 with ⟨f1, f2⟩ | ⟨k, f1, f2, ⟨s', a1, a2, a3⟩, f4⟩
    · rw [f1]
    · obtain ⟨k', e, hh⟩ := rsq_h a1 a2
      exact absurd hh (h k' (by omega))
  · obtain ⟨s, s1, s2, s3, s4⟩ := Has_s ok h1
    rcases r2 with ⟨f1, f2⟩ | ⟨k', f1, f2, ⟨s', a1, a2, a3⟩, f4⟩
    · exact absurd s4 (f2 s s1 s2)
    · have g1 := f4 s s1 s2 s4
      obtain ⟨k2, e, hh⟩ := rsq_h a1 a2
      have g2 : k' = k + 1 := by
        rcases Nat.lt_or_ge k2 k with q | q
        · exact absurd hh (h2 k2 q)
        · omega
      rw [f1, g2]
/-- the model's most of a size -/
def isMo (S : pS) (v k z : Nat) : Prop := (∀ r, Row (S 5 2) (Bv S v) (k + 1) r → sW (Bv S v) (S 3) r (k + 1) < z) ∧ (z = 0 ∨ ∃ r, Row (S 5 2) (Bv S v) (k + 1) r ∧ sW (Bv S v) (S 3) r (k + 1) + 1 = z)
def MoI (S : pS) (v k s f z : Nat) : Prop := (∀ s' r, s' < 128 → Row (S 5 2) (Bv S v) (k + 1) r → isS s' (k + 1) r → (s' < s ∨ (s' = s ∧ r k < f)) → sW (Bv S v) (S 3) r (k + 1) < z) ∧ (z = 0 ∨ ∃ r, Row (S 5 2) (Bv S v) (k + 1) r ∧ sW (Bv S v) (S 3) r (k + 1) + 1 = z)
theorem MoI_b (ok : Ok S) {v k s f z : Nat} (h : MoI S v k s f z) : z ≤ 211 := by
  rcases h.2 with h | ⟨r, h1, e⟩
  · omega
  · have := (W_b ok h1).1; omega
theorem m_mo15 (ok : Ok S) {v k : Nat} (hk : k < 7) {m : hM} (km : Ml m ml S T) (tt : MTT S v m 128 0) : ∀ d s e f z, s + d = 128 → f + e = S 0 1 → 1 ≤ s → s < 128 → MoI S v k s f z → ∃ z', w_X6_mostOf_15 (nI (k + 1)) (enc z) (nI s) (nI f) (hG m ml pm) = some (some (.int (enc z')), hG m ml pm) ∧ MoI S v k 128 0 z' := by
  have F7 := ok.F7
  intro d
  induction d with
  | zero => intro s e f z h _ _ h2; omega
  | succ d ihd =>
    intro s e
    have nxS : ∀ z, MoI S v k (s + 1) 0 z → s + (d + 1) = 128 → ∃ z', w_X6_mostOf_5 (nI (k + 1)) (enc z) (nI (s + 1)) (hG m ml pm) = some (some (.int (enc z')), hG m ml pm) ∧ MoI S v k 128 0 z' := by
      intro z h hs
      rw [e_X6_mostOf_5]
      by_cases q : 128 ≤ s + 1
      · rw [if_pos (show (128 : Int32) ≤ nI (s + 1) from yle (a := 128) q (by omega))]
        refine ⟨z, rfl, ?_⟩
        rw [← show s + 1 = 128 by omega]; exact h
      · rw [if_neg (show ¬ (128 : Int32) ≤ nI (s + 1) from fun c => q ((le_nI (a := 128) (by omega) (by omega)).mp c))]
        exact ihd (s + 1) (S 0 1) 0 z (by omega) (by omega) (by omega) (by omega) h
    induction e with
    | zero =>
      intro f z hs hf h1 hlt mo
      rw [e_X6_mostOf_15, m_F km, if_pos (yle (by omega) (by omega)), nI_1]
      refine nxS z ⟨fun s' r a1 a2 a3 a4 => mo.1 s' r a1 a2 a3 ?_, mo.2⟩ hs
      have := ok.pF (a2.1 k (by omega)); omega
    | succ e ihe =>
      intro f z hs hf h1 hlt mo
      have zb := MoI_b ok mo
      have pb := pc_b s
      rw [e_X6_mostOf_15, m_F km, if_neg (nle (by omega) (by omega)), ones hlt, bI_i, e_X6_mostOf_30, nI_1, nI_1]
      by_cases q : pc s = k + 1
      · rw [if_pos (show nI (pc s) = nI (k + 1) by rw [q])]
        obtain ⟨y, hy, mx⟩ := tt s f h1 hlt (by omega) (by omega)
        have yb := isMl_b ok mx
        have st := ok.st (f := f) (by omega)
        rw [lit_nI 7, pk_mul, nI_add, if_pos (in_nI (by omega) (by omega)), cl_nI (by omega), hy]
        have wv : ∀ r, sW (Bv S v) (S 3) r (k + 1) = sV (Bv S v) r (k + 1) + S 3 (r k) := fun r => rfl
        have cont : (∀ r, Row (S 5 2) (Bv S v) (k + 1) r → isS s (k + 1) r → r k = f → sW (Bv S v) (S 3) r (k + 1) < z) → ∃ z', w_X6_mostOf_15 (nI (k + 1)) (enc z) (nI s) (nI (f + 1)) (hG m ml pm) = some (some (.int (enc z')), hG m ml pm) ∧ MoI S v k 128 0 z' := by
          intro hh
          refine ihe (f + 1) z hs (by omega) h1 hlt ⟨fun s' r a1 a2 a3 a4 => ?_, mo.2⟩
          by_cases c : s' = s ∧ r k = f
          · rw [c.1] at a3; exact hh r a2 a3 c.2
          · exact mo.1 s' r a1 a2 a3 (by omega)
        by_cases z0 : y = 0
        · rw [if_pos (by rw [z0]; rfl)]
          exact cont (fun r a1 a2 a3 => by have := mx.1 k r a1 a2 a3; omega)
        · have ee : enc y = nI (y - 1) := by unfold enc; rw [if_neg z0]
          rw [if_neg (fun c => z0 ((enc_9 (by omega)).mp c)), if_pos (in_nI (by omega) (by omega)), if_pos (in_nI (by omega) (by omega)), cl_nI (by omega), m_st km _ (by omega), ee, nI_add]
          by_cases c : y - 1 + S 3 f < z
          · rw [if_pos ((enc_le (by omega) (by omega)).mpr c)]
            exact cont (fun r a1 a2 a3 => by have := mx.1 k r a1 a2 a3; rw [wv, a3]; omega)
          · rw [if_neg (fun x => c ((enc_le (by omega) (by omega)).mp x)), show nI (y - 1 + S 3 f) = enc (y + S 3 f) from by unfold enc; rw [if_neg (by omega)]; congr 1; omega]
            refine ihe (f + 1) (y + S 3 f) hs (by omega) h1 hlt ⟨fun s' r a1 a2 a3 a4 => ?_, ?_⟩
            · by_cases c2 : s' = s ∧ r k = f
              · rw [c2.1] at a3
                have := mx.1 k r a2 a3 c2.2
                rw [wv, c2.2]; omega
              · have := mo.1 s' r a1 a2 a3 (by omega); omega
            · rcases mx.2 with z' | ⟨k', r, a1, a2, a3, a4⟩
              · exact absurd z' z0
              · have e1 := isS_pc hlt a1 a2
                have e2 : k' = k := by omega
                subst e2
                exact Or.inr ⟨r, a1, by rw [wv, a3]; omega⟩
      · rw [if_neg (fun c => q ((eq_nI (by omega) (by omega)).mp c))]
        refine nxS z ⟨fun s' r a1 a2 a3 a4 => ?_, mo.2⟩ hs
        by_cases c : s' = s
        · rw [c] at a3
          exact absurd (isS_pc hlt a2 a3) q
        · exact mo.1 s' r a1 a2 a3 (by omega)
theorem m_mostOf (ok : Ok S) {v k : Nat} (hk : k < 7) {m : hM} (km : Ml m ml S T) (tt : MTT S v m 128 0) : ∃ z, f_X6_mostOf [.ref 99, .int (nI (k + 1))] (hG m ml pm) = some (some (.int (enc z)), hG m ml pm) ∧ isMo S v k z := by
  have F7 := ok.F7
  rw [e_X6_mostOf, e_X6_mostOf_5, if_neg (by decide), show (-9 : Int32) = enc 0 from rfl, show (1 : Int32) = nI 1 from rfl, show (0 : Int32) = nI 0 from rfl]
  have mo0 : MoI S v k 1 0 0 := by
    refine ⟨fun s' r a1 a2 a3 a4 => ?_, Or.inl rfl⟩
    have a4' : (s' < 1 ∨ s' = 1 ∧ r k < 0) := a4
    have e0 : s' = 0 := by omega
    have := (a3 (r 0)).mpr ⟨0, by omega, rfl⟩
    rw [e0, Nat.zero_testBit] at this
    cases this
  obtain ⟨z, r1, r2⟩ := m_mo15 (pm := pm) ok hk km tt 127 1 (S 0 1) 0 0 (by omega) (by omega) (by omega) (by omega) mo0
  refine ⟨z, r1, fun r h => ?_, r2.2⟩
  have b : setN r (k + 1) < 128 := setN_b (fun i hi => by have := ok.pF (h.1 i hi); omega)
  exact r2.1 (setN r (k + 1)) r b h (setN_S r (k + 1)) (by omega)
theorem enc_lt {z n : Nat} (h0 : 1 ≤ n) (hn : n ≤ 1000) (hz : z ≤ 1000) : enc z < nI n ↔ z ≤ n := by
  cases z with
  | zero =>
    rw [enc_0]
    refine ⟨fun _ => by omega, fun _ => ?_⟩
    rw [Int32.lt_iff_toInt_lt, nI_toInt (by omega), show (-9 : Int32).toInt = -9 from by decide]
    omega
  | succ z => rw [enc_s, lt_nI (by omega) (by omega)]; omega
theorem isMo_h (ok : Ok S) {v k z n : Nat} (h : isMo S v k z) : Has S v n (k + 1) → n < z := by
  rintro ⟨r, h1, h2⟩
  have := h.1 r h1; omega
theorem isMo_b (ok : Ok S) {v k z : Nat} (h : isMo S v k z) : z ≤ 211 := by
  rcases h.2 with h | ⟨r, h1, e⟩
  · omega
  · have := (W_b ok h1).1; omega
theorem h_isMo {v k z n : Nat} (h : isMo S v k z) (hz : n < z) : Has S v n (k + 1) := by
  rcases h.2 with h | ⟨r, h1, e⟩
  · omega
  · exact ⟨r, h1, by omega⟩
/-- the model's fewest -/
theorem m_fewestOf (ok : Ok S) {v n : Nat} (hv : v ≤ 99) (h0 : 1 ≤ n) (hn : n ≤ 1000) {m : hM} (km : Ml m ml S T) : ∃ m1 : hM, (∀ c, c ≠ 111 → m1 c = m c) ∧ MTT S v m1 128 0 ∧ ((∀ k, k < 7 → ¬ Has S v n (k + 1)) → f_X6_fewestOf [.ref 99, .int (nI n), .int (nI v)] (hG m ml pm) = some (some (.int (-9)), hG m1 ml pm)) ∧ (∀ k, k < 7 → Has S v n (k + 1) → (∀ j, j < k → ¬ Has S v n (j + 1)) → f_X6_fewestOf [.ref 99, .int (nI n), .int (nI v)] (hG m ml pm) = some (some (.int (nI (k + 1))), hG m1 ml pm)) := by
  obtain ⟨m1, r1, r2, r3⟩ := m_puts (pm := pm) km ok hv
  have k1 : Ml m1 ml S T := Ml_fx km (fun c h _ => r2 c h)
  have body : ∀ k, k < 7 → (Has S v n (k + 1) → w_X6_fewestOf_7 (nI n) (nI v) (nI (k + 1)) (hG m1 ml pm) = some (some (.int (nI (k + 1))), hG m1 ml pm)) ∧ (¬ Has S v n (k + 1) → w_X6_fewestOf_7 (nI n) (nI v) (nI (k + 1)) (hG m1 ml pm) = w_X6_fewestOf_7 (nI n) (nI v) (nI (k + 2)) (hG m1 ml pm)) := by
    intro k hk
    obtain ⟨z, s1, s2⟩ := m_mostOf (pm := pm) ok hk k1 r3
    have zb := isMo_b ok s2
    rw [e_X6_fewestOf_7, if_neg (show ¬ (8 : Int32) ≤ nI (k + 1) from fun c => absurd ((le_nI (a := 8) (by omega) (by omega)).mp c) (by omega)), s1, bI_i, e_X6_fewestOf_18, nI_1]
    refine ⟨fun h => ?_, fun h => ?_⟩
    · have := isMo_h ok s2 h
      rw [if_neg (fun c => by have := (enc_lt h0 hn (by omega)).mp c; omega)]
    · rw [if_pos ((enc_lt h0 hn (by omega)).mpr (by
        rcases Nat.lt_or_ge n z with q | q
        · exact absurd (h_isMo s2 q) h
        · exact q))]
  refine ⟨m1, r2, r3, fun h => ?_, fun k hk h1 h2 => ?_⟩
  · rw [e_X6_fewestOf, r1, bV_v, e_X6_fewestOf_5]
    refine Eq.trans (lpN (w := fun (_ : Unit) i => w_X6_fewestOf_7 (nI n) (nI v) i (hG m1 ml pm)) (fun _ => ()) (fun i => i + 1) (n := 7) (fun i hi => (body i hi).2 (h i hi)) 0 (by omega)) ?_
    show w_X6_fewestOf_7 _ _ (nI 8) _ = _
    rw [e_X6_fewestOf_7, if_pos (by decide)]
  · rw [e_X6_fewestOf, r1, bV_v, e_X6_fewestOf_5]
    refine Eq.trans (lpN (w := fun (_ : Unit) i => w_X6_fewestOf_7 (nI n) (nI v) i (hG m1 ml pm)) (fun _ => ()) (fun i => i + 1) (n := k) (fun i hi => (body i (by omega)).2 (h2 i hi)) 0 (by omega)) ?_
    exact (body k hk).1 h1
end E1
theorem b_fewest {S : pS} (ok : Ok S) (T : Int64) (a b : Int32) : ∃ v S' T', Both (f_X5_fewest [.ref 0, .int a, .int b]) (f_X6_fewest [.ref 99, .int a, .int b]) S T v S' T' := by
  by_cases h : wi3 a 1 300 = 0
  · refine ⟨-1, S, T, Both_q ok (fun mi ml pm k => ?_) (fun mi ml pm k => ?_)⟩
    · rw [e_X5_fewest, x5_isWithin, bI_i, e_X5_fewest_8, if_pos h]
    · rw [e_X6_fewest, x6_in, bI_i, e_X6_fewest_13, if_pos h]
  by_cases h2 : wi3 b 0 99 = 0
  · refine ⟨-1, S, T, Both_q ok (fun mi ml pm k => ?_) (fun mi ml pm k => ?_)⟩
    · rw [e_X5_fewest, x5_isWithin, bI_i, e_X5_fewest_8, if_neg h, x5_isHold, bI_i, e_X5_fewest_15, if_pos h2]
    · rw [e_X6_fewest, x6_in, bI_i, e_X6_fewest_13, if_neg h, x6_in, bI_i, e_X6_fewest_23, if_pos h2]
  obtain ⟨n, n1, n2, rfl⟩ := nat_of (b := 1) (n := 300) (by omega) h (by omega)
  obtain ⟨v, -, hv, rfl⟩ := nat_of (b := 0) (n := 99) (by omega) h2 (by omega)
  have fin : ∀ z : Int32, (∀ (m : hM) ml pm, TT S v m 128 0 → f_X1_fewestFlowers [.ref 20, .int (nI n)] (hG m ml pm) = some (some (.int z), hG m ml pm)) → (∀ (m m1 : hM) ml pm, ((∀ k, k < 7 → ¬ Has S v n (k + 1)) → f_X6_fewestOf [.ref 99, .int (nI n), .int (nI v)] (hG m ml pm) = some (some (.int (-9)), hG m1 ml pm)) ∧ (∀ k, k < 7 → Has S v n (k + 1) → (∀ j, j < k → ¬ Has S v n (j + 1)) → f_X6_fewestOf [.ref 99, .int (nI n), .int (nI v)] (hG m ml pm) = some (some (.int (nI (k + 1))), hG m1 ml pm)) → f_X6_fewestOf [.ref 99, .int (nI n), .int (nI v)] (hG m ml pm) = some (some (.int z), hG m1 ml pm)) → Both (f_X5_fewest [.ref 0, .int (nI n), .int (nI v)]) (f_X6_fewest [.ref 99, .int (nI n), .int (nI v)]) S T z S T := by
    intro z hc hm
    refine ⟨fun mi ml pm k => ?_, fun mi ml pm k => ?_, ok⟩
    · obtain ⟨m1, r1, r2, r3⟩ := c_prepare k ok hv
      rw [e_X5_fewest, x5_isWithin, bI_i, e_X5_fewest_8, if_neg h, x5_isHold, bI_i, e_X5_fewest_15, if_neg h2, r1, bV_v, e_X5_fewest_36, hc m1 ml pm r3.2.2, bI_i, e_X5_fewest_44]
      exact ⟨m1, ml, pm, rfl, Cl_fx k (fun c hc => r2 c (by omega)), fun c hc => r2 c (by omega), rfl⟩
    · have km := Ml_th (0 : Int32) k
      obtain ⟨m1, r1, r2, r3⟩ := m_fewestOf (pm := pm) ok hv n1 (by omega) km
      rw [e_X6_fewest, x6_in, bI_i, e_X6_fewest_13, if_neg h, x6_in, bI_i, e_X6_fewest_23, if_neg h2, hm _ m1 ml pm r3, bI_i, e_X6_fewest_34]
      exact ⟨m1, ml, rfl, Ml_fx km (fun c h _ => r1 c h), fun c hc => by rw [r1 c (by omega), ml0 mi 0 c hc], rfl⟩
  rcases first_or (fun k => Has S v n (k + 1)) 7 with q | ⟨j, hj, q1, q2⟩
  · exact ⟨-9, S, T, fin _ (fun m ml pm tt => (c_fewest ok tt (by omega) n1).1 q) (fun m m1 ml pm hh => hh.1 q)⟩
  · exact ⟨nI (j + 1), S, T, fin _ (fun m ml pm tt => (c_fewest ok tt (by omega) n1).2 j hj q1 q2) (fun m m1 ml pm hh => hh.2 j hj q1 q2)⟩
