/-! the first row: pure, and the class's way to it -/
def Val (S : pS) (v n sz : Nat) (r : Nat → Nat) : Prop := Row (S 5 2) (Bv S v) sz r ∧ n ≤ sW (Bv S v) (S 3) r sz
def Gq (S : pS) (v n sz : Nat) (q : Nat → Nat) : Prop := Val S v n sz q ∧ ∀ i, i < sz → ∀ r, Val S v n sz r → (∀ j, j < i → r j = q j) → q i ≤ r i
theorem Gq_e {S : pS} {v n sz : Nat} (h : ∃ r, Val S v n sz r) : ∃ q, Gq S v n sz q := by
  have key : ∀ i, i ≤ sz → ∃ q, Val S v n sz q ∧ ∀ i', i' < i → ∀ r, Val S v n sz r → (∀ j, j < i' → r j = q j) → q i' ≤ r i' := by
    intro i
    induction i with
    | zero => intro _; obtain ⟨r, h⟩ := h; exact ⟨r, h, fun i' c => by omega⟩
    | succ i ih =>
      intro hi
      obtain ⟨q, h1, h2⟩ := ih (by omega)
      rcases first_or (fun f => ∃ r, Val S v n sz r ∧ (∀ j, j < i → r j = q j) ∧ r i = f) (q i + 1) with c | ⟨f, hf, ⟨r, g1, g2, g3⟩, g4⟩
      · exact absurd ⟨q, h1, fun _ _ => rfl, rfl⟩ (c (q i) (by omega))
      · refine ⟨r, g1, fun i' hi' r' k1 k2 => ?_⟩
        by_cases e : i' = i
        · rw [e, g3]
          rcases Nat.lt_or_ge (r' i) f with z | z
          · exact absurd ⟨r', k1, fun j hj => by rw [k2 j (by omega), g2 j hj], rfl⟩ (g4 (r' i) z)
          · exact z
        · rw [g2 i' (by omega)]
          exact h2 i' (by omega) r' k1 (fun j hj => by rw [k2 j hj, g2 j (by omega)])
  obtain ⟨q, h1, h2⟩ := key sz (Nat.le_refl _)
  exact ⟨q, h1, h2⟩
def gap (B : Nat → Nat → Nat) (r : Nat → Nat) (i f : Nat) : Nat := if i = 0 then 0 else B (r (i - 1)) f
theorem sV_split (B : Nat → Nat → Nat) (r : Nat → Nat) (i w : Nat) : sV B r (i + w + 1) = sV B r i + gap B r i (r i) + sV B (fun j => r (i + j)) (w + 1) := by
  induction w with
  | zero =>
    cases i with
    | zero => rfl
    | succ i =>
      show sV B r (i + 2) = sV B r (i + 1) + gap B r (i + 1) (r (i + 1)) + 0
      rw [sV_s]
      unfold gap
      rw [if_neg (by omega), Nat.add_sub_cancel]; omega
  | succ w ih =>
    show sV B r (i + w + 2) = _ + sV B (fun j => r (i + j)) (w + 2)
    rw [sV_s, sV_s, ih]
    show _ + B (r (i + w)) (r (i + w + 1)) = _ + (_ + B (r (i + w)) (r (i + (w + 1))))
    rw [show i + (w + 1) = i + w + 1 by omega]; omega
theorem sW_split (B : Nat → Nat → Nat) (st : Nat → Nat) (r : Nat → Nat) (i w : Nat) : sW B st r (i + w + 1) = sV B r i + gap B r i (r i) + sW B st (fun j => r (i + j)) (w + 1) := by
  show sV B r (i + w + 1) + st (r (i + w)) = _ + (sV B (fun j => r (i + j)) (w + 1) + st (r (i + w)))
  rw [sV_split]; omega
/-- what is still free when the first i are taken -/
def fre (P : Nat) (q : Nat → Nat) : Nat → Nat
  | 0 => P
  | i + 1 => del (fre P q i) (q i)
theorem fre_b {P : Nat} (hP : P < 128) (q : Nat → Nat) (i : Nat) : fre P q i < 128 := by
  induction i with
  | zero => exact hP
  | succ i ih => exact del_lt _ ih
theorem fre_t {P : Nat} (hP : P < 128) (q : Nat → Nat) (i g : Nat) : (fre P q i).testBit g = true ↔ P.testBit g = true ∧ ∀ j, j < i → g ≠ q j := by
  induction i with
  | zero => exact ⟨fun h => ⟨h, fun j c => by omega⟩, fun h => h.1⟩
  | succ i ih =>
    show (del (fre P q i) (q i)).testBit g = true ↔ _
    rw [del_t (fre_b hP q i), ih]
    constructor
    · rintro ⟨⟨h1, h2⟩, h3⟩
      refine ⟨h1, fun j hj => ?_⟩
      by_cases e : j = i
      · rw [e]; exact h3
      · exact h2 j (by omega)
    · rintro ⟨h1, h2⟩
      exact ⟨⟨h1, fun j hj => h2 j (by omega)⟩, h2 i (by omega)⟩
/-- a candidate for the rest of a row -/
def Cnd (S : pS) (v : Nat) (q : Nat → Nat) (i w f : Nat) (r : Nat → Nat) : Prop := Row (S 5 2) (Bv S v) (w + 1) r ∧ r 0 = f ∧ ∀ j, j < w + 1 → (fre (S 5 2) q i).testBit (r j) = true
def joi (q r : Nat → Nat) (i : Nat) : Nat → Nat := fun j => if j < i then q j else r (j - i)
section G1
variable {S : pS} {ml : Nat → Nat → Int64} {pm : Nat → Option Nat} {T : Int64}
theorem joi_v (ok : Ok S) {v n i w f : Nat} {q r : Nat → Nat} (hq : Row (S 5 2) (Bv S v) i q) (c : Cnd S v q i w f r) (hb : i = 0 ∨ 0 < Bv S v (q (i - 1)) f) (hn : n ≤ sV (Bv S v) q i + gap (Bv S v) q i f + sW (Bv S v) (S 3) r (w + 1)) : Val S v n (i + w + 1) (joi q r i) := by
  have e1 : ∀ j, j < i → joi q r i j = q j := fun j hj => by unfold joi; rw [if_pos hj]
  have e2 : ∀ j, joi q r i (i + j) = r j := fun j => by unfold joi; rw [if_neg (by omega), Nat.add_sub_cancel_left]
  have e2' : ∀ j, i ≤ j → joi q r i j = r (j - i) := fun j hj => by unfold joi; rw [if_neg (by omega)]
  refine ⟨⟨fun j hj => ?_, fun a b ha hb' e => ?_, fun j hj => ?_⟩, ?_⟩
  · rcases Nat.lt_or_ge j i with z | z
    · rw [e1 j z]; exact hq.1 j z
    · rw [e2' j z]; exact c.1.1 (j - i) (by omega)
  · rcases Nat.lt_or_ge a i with z | z <;> rcases Nat.lt_or_ge b i with z' | z'
    · rw [e1 a z, e1 b z'] at e; exact hq.2.1 a b z z' e
    · rw [e1 a z, e2' b z'] at e
      exact absurd e.symm (((fre_t ok.pk q i _).mp (c.2.2 (b - i) (by omega))).2 a z)
    · rw [e2' a z, e1 b z'] at e
      exact absurd e (((fre_t ok.pk q i _).mp (c.2.2 (a - i) (by omega))).2 b z')
    · rw [e2' a z, e2' b z'] at e
      have := c.1.2.1 (a - i) (b - i) (by omega) (by omega) e; omega
  · rcases Nat.lt_or_ge (j + 1) i with z | z
    · rw [e1 j (by omega), e1 (j + 1) z]; exact hq.2.2 j z
    · rcases Nat.lt_or_ge j i with z' | z'
      · rw [e1 j z', e2' (j + 1) z, show j + 1 - i = 0 by omega, c.2.1]
        rcases hb with hb | hb
        · omega
        · rw [show j = i - 1 by omega]; exact hb
      · rw [e2' j z', e2' (j + 1) z, show j + 1 - i = (j - i) + 1 by omega]
        exact c.1.2.2 (j - i) (by omega)
  · rw [sW_split]
    have s1 : sV (Bv S v) (joi q r i) i = sV (Bv S v) q i := by
      rcases Nat.eq_zero_or_pos i with z | z
      · rw [z]; rfl
      · exact sV_e z (fun j hj => e1 j hj)
    have s2 : (fun j => joi q r i (i + j)) = r := by funext j; exact e2 j
    have s3 : gap (Bv S v) (joi q r i) i (joi q r i i) = gap (Bv S v) q i f := by
      have : joi q r i i = f := by have := e2 0; rw [Nat.add_zero] at this; rw [this]; exact c.2.1
      rw [this]
      unfold gap
      by_cases z : i = 0
      · rw [if_pos z, if_pos z]
      · rw [if_neg z, if_neg z, e1 (i - 1) (by omega)]
    rw [s1, s2, s3]; exact hn
/-- what the class gathers over the sets below s -/
def MoS (S : pS) (v : Nat) (q : Nat → Nat) (i w f s acc : Nat) : Prop := (∀ r s', Cnd S v q i w f r → s' < s → s' < 128 → isS s' (w + 1) r → (i = 0 ∨ 0 < Bv S v (q (i - 1)) f) → gap (Bv S v) q i f + sW (Bv S v) (S 3) r (w + 1) ≤ acc) ∧ (acc = 0 ∨ ((i = 0 ∨ 0 < Bv S v (q (i - 1)) f) ∧ ∃ r, Cnd S v q i w f r ∧ gap (Bv S v) q i f + sW (Bv S v) (S 3) r (w + 1) = acc))
def ahd (q : Nat → Nat) (i : Nat) : Int32 := if i = 0 then -9 else nI (q (i - 1))
theorem MoS_b (ok : Ok S) {v i w f s acc : Nat} {q : Nat → Nat} (hq : ∀ j, j < i → q j < S 0 1) (h : MoS S v q i w f s acc) : acc ≤ 240 := by
  rcases h.2 with z | ⟨_, r, c, e⟩
  · omega
  · have a := (W_b ok c.1).1
    have b : gap (Bv S v) q i f ≤ 30 := by
      unfold gap
      split
      · omega
      · exact ok.Bb (hq (i - 1) (by omega))
    omega
theorem c_mos (ok : Ok S) {m : hM} {v i w f : Nat} {q : Nat → Nat} (hv : v ≤ 99) (ct : CTb S v m) (hq : ∀ j, j < i → q j < S 0 1) (hf : f < S 0 1) (hw7 : w < 7) : ∀ d s acc, s + d = 128 → 1 ≤ s → MoS S v q i w f s acc → ∃ x, w_X1_mostOfSize_6 (ahd q i) (nI f) (nI (fre (S 5 2) q i)) (nI (w + 1)) (nI acc) (nI s) (hG m ml pm) = some (some (.int (nI x)), hG m ml pm) ∧ MoS S v q i w f 128 x := by
  have F7 := ok.F7
  have fb := fre_b ok.pk q i
  intro d
  induction d with
  | zero =>
    intro s acc hs _ mo
    rw [e_X1_mostOfSize_6, if_pos (show (128 : Int32) ≤ nI s from yle (a := 128) (by omega) (by omega))]
    refine ⟨acc, rfl, ?_⟩
    rw [← show s = 128 by omega]; exact mo
  | succ d ih =>
    intro s acc hs h1 mo
    have hlt : s < 128 := by omega
    have ab := MoS_b ok hq mo
    have pb := pc_b s
    rw [e_X1_mostOfSize_6, if_neg (show ¬ (128 : Int32) ≤ nI s from fun c => absurd ((le_nI (a := 128) (by omega) (by omega)).mp c) (by omega)), nI_1]
    have skip : (∀ r, Cnd S v q i w f r → ¬ isS s (w + 1) r) → ∃ x, w_X1_mostOfSize_6 (ahd q i) (nI f) (nI (fre (S 5 2) q i)) (nI (w + 1)) (nI acc) (nI (s + 1)) (hG m ml pm) = some (some (.int (nI x)), hG m ml pm) ∧ MoS S v q i w f 128 x := by
      intro hn
      refine ih (s + 1) acc (by omega) (by omega) ⟨fun r s' c a1 a2 a3 a4 => ?_, mo.2⟩
      by_cases e : s' = s
      · rw [e] at a3; exact absurd a3 (hn r c)
      · exact mo.1 r s' c (by omega) a2 a3 a4
    by_cases sb : ∀ g, s.testBit g = true → (fre (S 5 2) q i).testBit g = true
    · rw [if_pos ((sub_0 hlt fb).mpr sb), bitCount hlt, bI_i, e_X1_mostOfSize_28, nI_1]
      by_cases ps : pc s = w + 1
      · rw [if_pos (show nI (pc s) = nI (w + 1) by rw [ps])]
        obtain ⟨x, hx, mx⟩ := ct.2.2 s f hlt (by omega) (by omega)
        have xb := isMx_b ok mx
        have go : ∀ y, y ≤ 240 → (y = 0 → ¬ (i = 0 ∨ 0 < Bv S v (q (i - 1)) f) ∨ x = 0) → (y ≠ 0 → (i = 0 ∨ 0 < Bv S v (q (i - 1)) f) ∧ x ≠ 0 ∧ y = gap (Bv S v) q i f + x) → ∃ x', w_X1_mostOfSize_62 (ahd q i) (nI f) (nI (fre (S 5 2) q i)) (nI (w + 1)) (nI acc) (nI s) (nI y) (hG m ml pm) = some (some (.int (nI x')), hG m ml pm) ∧ MoS S v q i w f 128 x' := by
          intro y yb y0 y1
          have em : (if nI acc < nI y then nI y else nI acc) = nI (if acc < y then y else acc) := by
            by_cases c : acc < y
            · rw [if_pos (ylt c (by omega)), if_pos c]
            · rw [if_neg (nlt (by omega) (by omega)), if_neg c]
          rw [e_X1_mostOfSize_62, em, nI_1]
          refine ih (s + 1) _ (by omega) (by omega) ⟨fun r s' c a1 a2 a3 a4 => ?_, ?_⟩
          · by_cases e : s' = s
            · rw [e] at a3
              have b1 := mx.1 w r c.1 a3 c.2.1
              have b2 := (W_b ok c.1).2.1
              have b3 : y ≠ 0 := fun z => by
                rcases y0 z with z' | z'
                · exact z' a4
                · omega
              have b4 := (y1 b3).2.2
              split <;> omega
            · have := mo.1 r s' c (by omega) a2 a3 a4
              split <;> omega
          · by_cases c : acc < y
            · rw [if_pos c]
              obtain ⟨g1, g2, g3⟩ := y1 (by omega)
              refine Or.inr ⟨g1, ?_⟩
              rcases mx.2 with z | ⟨k', r, b1, b2, b3, b4⟩
              · exact absurd z g2
              · have e := isS_pc hlt b1 b2
                have e2 : k' = w := by omega
                subst e2
                exact ⟨r, ⟨b1, b3, fun j hj => sb _ ((b2 (r j)).mpr ⟨j, hj, rfl⟩)⟩, by omega⟩
            · rw [if_neg c]; exact mo.2
        unfold ahd at go ⊢
        by_cases z : i = 0
        · rw [if_pos z] at go
          rw [if_pos z, if_pos rfl, lit_nI 7, pk_mul, nI_add, if_pos (in_nI (by omega) (by omega)), cl_nI (by omega), hx]
          refine go x (by omega) (fun c => Or.inr c) (fun c => ⟨Or.inl z, c, ?_⟩)
          unfold gap; rw [if_pos z]; omega
        · have qF := hq (i - 1) (by omega)
          have Bb := ok.Bb (v := v) (g := f) qF
          rw [if_neg z] at go
          rw [if_neg z, if_neg (n9 (by omega)), c_with ok hv qF hf hlt ct.2.1 hx xb, bI_i]
          by_cases c : Bv S v (q (i - 1)) f = 0 ∨ x = 0
          · rw [if_pos c]
            exact go 0 (by omega) (fun _ => by
              rcases c with c | c
              · exact Or.inl (fun a => by omega)
              · exact Or.inr c) (fun c => absurd rfl c)
          · rw [if_neg c]
            refine go _ (by omega) (fun c' => by omega) (fun _ => ⟨Or.inr (by omega), by omega, ?_⟩)
            unfold gap; rw [if_neg z]
      · rw [if_neg (fun c => ps ((eq_nI (by omega) (by omega)).mp c))]
        exact skip (fun r c hS => ps (isS_pc hlt c.1 hS))
    · rw [if_neg (fun c => sb ((sub_0 hlt fb).mp c))]
      refine skip (fun r c hS => sb (fun g hg => ?_))
      obtain ⟨j, hj, e⟩ := (hS g).mp hg
      rw [← e]; exact c.2.2 j hj
theorem c_first (ok : Ok S) {m : hM} {v n i w : Nat} {q : Nat → Nat} (hv : v ≤ 99) (hn : n ≤ 1000) (ct : CTb S v m) (gq : Gq S v n (i + w + 1) q) : f_X1_firstThatReaches [.ref 20, .int (ahd q i), .int (nI (fre (S 5 2) q i)), .int (nI (w + 1)), .int (zI ((n : Int) - sV (Bv S v) q i))] (hG m ml pm) = some (some (.int (nI (q i))), hG m ml pm) := by
  have F7 := ok.F7
  have rq := gq.1.1
  have w7 : i + w + 1 ≤ 7 := (W_b ok rq).2.2.1
  have fb := fre_b ok.pk q i
  have hq : ∀ j, j < i → q j < S 0 1 := fun j hj => ok.pF (rq.1 j (by omega))
  have qi : q i < S 0 1 := ok.pF (rq.1 i (by omega))
  have rqi : Row (S 5 2) (Bv S v) i q := Row_le rq (by omega)
  have svb : sV (Bv S v) q i ≤ 180 := by
    rcases Nat.eq_zero_or_pos i with z | z
    · rw [z]; exact Nat.zero_le _
    · have := (W_b ok (k := i - 1) (by rw [show i - 1 + 1 = i by omega]; exact rqi)).2.2.2
      rwa [show i - 1 + 1 = i by omega] at this
  rw [e_X1_firstThatReaches]
  have most : ∀ f, f < S 0 1 → ∃ x, f_X1_mostOfSize [.ref 20, .int (ahd q i), .int (nI f), .int (nI (fre (S 5 2) q i)), .int (nI (w + 1))] (hG m ml pm) = some (some (.int (nI x)), hG m ml pm) ∧ MoS S v q i w f 128 x := by
    intro f hf
    rw [e_X1_mostOfSize]
    have mo0 : MoS S v q i w f 1 0 := by
      refine ⟨fun r s' c a1 a2 a3 _ => ?_, Or.inl rfl⟩
      have h9 := (a3 (r 0)).mpr ⟨0, by omega, rfl⟩
      rw [show s' = 0 by omega, Nat.zero_testBit] at h9
      cases h9
    exact c_mos ok hv ct hq hf (by omega) 127 1 0 (by omega) (by omega) mo0
  have step : ∀ f, f < q i → w_X1_firstThatReaches_3 (ahd q i) (nI (fre (S 5 2) q i)) (nI (w + 1)) (zI ((n : Int) - sV (Bv S v) q i)) (nI f) (hG m ml pm) = w_X1_firstThatReaches_3 (ahd q i) (nI (fre (S 5 2) q i)) (nI (w + 1)) (zI ((n : Int) - sV (Bv S v) q i)) (nI (f + 1)) (hG m ml pm) := by
    intro f hf
    rw [e_X1_firstThatReaches_3, if_neg (show ¬ (7 : Int32) ≤ nI f from fun c => absurd ((le_nI (a := 7) (by omega) (by omega)).mp c) (by omega)), x1_isIn m fb (by omega), bI_i, e_X1_firstThatReaches_16]
    cases hb : (fre (S 5 2) q i).testBit f with
    | false => rw [if_pos (by decide), e_X1_firstThatReaches_32, if_pos (by decide), nI_1]
    | true =>
      obtain ⟨x, r1, r2⟩ := most f (by omega)
      have xb := MoS_b ok hq r2
      rw [if_neg (by decide), r1, bI_i, e_X1_firstThatReaches_28, e_X1_firstThatReaches_32, nI_1]
      by_cases z : x = 0
      · rw [if_pos (show nI x ≤ (0 : Int32) by rw [z]; decide)]
      · rw [if_neg (npos (by omega) (by omega))]
        by_cases c : nI x < zI ((n : Int) - sV (Bv S v) q i)
        · rw [if_pos c]
        · exfalso
          have c' : ¬ ((x : Int) < (n : Int) - sV (Bv S v) q i) := fun h => c (by rw [nI_z]; exact (z_lt (by omega) (by omega) (by omega) (by omega)).mpr h)
          rcases r2.2 with z' | ⟨g1, r, g2, g3⟩
          · exact z z'
          · have vj := joi_v (n := n) ok rqi g2 g1 (by omega)
            have := gq.2 i (by omega) _ vj (fun j hj => by unfold joi; rw [if_pos hj])
            have e : joi q r i i = f := by unfold joi; rw [if_neg (by omega), Nat.sub_self]; exact g2.2.1
            omega
  refine Eq.trans (lpG (w := fun (_ : Unit) f => w_X1_firstThatReaches_3 (ahd q i) (nI (fre (S 5 2) q i)) (nI (w + 1)) (zI ((n : Int) - sV (Bv S v) q i)) f (hG m ml pm)) (fun _ => ()) (n := q i) (fun f hf => step f hf) 0 (by omega)) ?_
  show w_X1_firstThatReaches_3 _ _ _ _ (nI (q i)) _ = _
  have free : (fre (S 5 2) q i).testBit (q i) = true := (fre_t ok.pk q i _).mpr ⟨rq.1 i (by omega), fun j hj e => by have := rq.2.1 i j (by omega) (by omega) e; omega⟩
  obtain ⟨x, r1, r2⟩ := most (q i) qi
  have xb := MoS_b ok hq r2
  have cq : Cnd S v q i w (q i) (fun j => q (i + j)) := by
    refine ⟨⟨fun j hj => rq.1 (i + j) (by omega), fun a b ha hb e => by have := rq.2.1 (i + a) (i + b) (by omega) (by omega) e; omega, fun j hj => rq.2.2 (i + j) (by omega)⟩, rfl, fun j hj => (fre_t ok.pk q i _).mpr ⟨rq.1 (i + j) (by omega), fun j' hj' e => by have := rq.2.1 (i + j) j' (by omega) (by omega) e; omega⟩⟩
  have okb : i = 0 ∨ 0 < Bv S v (q (i - 1)) (q i) := by
    rcases Nat.eq_zero_or_pos i with z | z
    · exact Or.inl z
    · have := rq.2.2 (i - 1) (by omega)
      rw [show i - 1 + 1 = i by omega] at this
      exact Or.inr this
  have bset : setN (fun j => q (i + j)) (w + 1) < 128 := setN_b (fun j hj => by have := ok.pF (rq.1 (i + j) (by omega)); omega)
  have lo := r2.1 _ _ cq bset bset (setN_S _ _) okb
  have sp := sW_split (Bv S v) (S 3) q i w
  have nn := gq.1.2
  have w1 := (W_b ok cq.1).2.1
  rw [e_X1_firstThatReaches_3, if_neg (show ¬ (7 : Int32) ≤ nI (q i) from fun c => absurd ((le_nI (a := 7) (by omega) (by omega)).mp c) (by omega)), x1_isIn m fb (by omega), free, bI_i, e_X1_firstThatReaches_16, if_neg (by decide), r1, bI_i, e_X1_firstThatReaches_28, e_X1_firstThatReaches_32, if_neg (npos (by omega) (by omega)), if_neg]
  intro c
  rw [nI_z] at c
  have := (z_lt (by omega) (by omega) (by omega) (by omega)).mp c
  omega
theorem c_frow (ok : Ok S) {m : hM} {v n sz : Nat} {q : Nat → Nat} (hv : v ≤ 99) (hn : n ≤ 1000) (ct : CTb S v m) (gq : Gq S v n sz q) {k : Nat} (hk : k < sz) : f_X1_flowerOfFirstRow [.ref 20, .int (nI n), .int (nI sz), .int (nI k)] (hG m ml pm) = some (some (.int (nI (q k))), hG m ml pm) := by
  have F7 := ok.F7
  have rq := gq.1.1
  have w7 : sz ≤ 7 := by
    obtain ⟨s', e⟩ : ∃ s', sz = s' + 1 := ⟨sz - 1, by omega⟩
    rw [e] at rq ⊢
    exact (W_b ok rq).2.2.1
  rw [e_X1_flowerOfFirstRow, ct.1]
  have body : ∀ i, i < k + 1 → w_X1_flowerOfFirstRow_16 (nI n) (nI sz) (nI k) (ahd q i) (nI (fre (S 5 2) q i)) (zI ((n : Int) - sV (Bv S v) q i)) (nI i) (hG m ml pm) = w_X1_flowerOfFirstRow_16 (nI n) (nI sz) (nI k) (ahd q (i + 1)) (nI (fre (S 5 2) q (i + 1))) (zI ((n : Int) - sV (Bv S v) q (i + 1))) (nI (i + 1)) (hG m ml pm) := by
    intro i hi
    have qi : q i < S 0 1 := ok.pF (rq.1 i (by omega))
    have gq' : Gq S v n (i + (sz - i - 1) + 1) q := by rw [show i + (sz - i - 1) + 1 = sz by omega]; exact gq
    have cf := c_first (ml := ml) (pm := pm) ok hv hn ct gq'
    rw [show sz - i - 1 + 1 = sz - i by omega] at cf
    have e73 : ∀ a4 x, w_X1_flowerOfFirstRow_73 (nI n) (nI sz) (nI k) a4 (nI (fre (S 5 2) q i)) x (nI i) (nI (q i)) (hG m ml pm) = w_X1_flowerOfFirstRow_16 (nI n) (nI sz) (nI k) (ahd q (i + 1)) (nI (fre (S 5 2) q (i + 1))) x (nI (i + 1)) (hG m ml pm) := by
      intro a4 x
      rw [e_X1_flowerOfFirstRow_73, del_i _ (fre_b ok.pk q i) (q i) (by omega), nI_1]
      have : ahd q (i + 1) = nI (q i) := by unfold ahd; rw [if_neg (by omega), Nat.add_sub_cancel]
      rw [this]; rfl
    rw [e_X1_flowerOfFirstRow_16, if_neg (nlt (by omega) (by omega)), pk_sub (show i ≤ sz by omega), cf, bI_i, e_X1_flowerOfFirstRow_36, if_neg (n9 (by omega)), e73]
    by_cases z : i = 0
    · have a9 : ahd q i = -9 := by unfold ahd; rw [if_pos z]
      rw [if_pos a9, z]; rfl
    · have qp : q (i - 1) < S 0 1 := ok.pF (rq.1 (i - 1) (by omega))
      have a9 : ahd q i = nI (q (i - 1)) := by unfold ahd; rw [if_neg z]
      have tb := (ok.th qi).2
      have bb := bpz_b ok qp tb hv
      have bpos := rq.2.2 (i - 1) (by omega)
      rw [show i - 1 + 1 = i by omega] at bpos
      have eb : Bv S v (q (i - 1)) (q i) = (bpz S (q (i - 1)) (S 2 (q i)) v).toNat := rfl
      rw [a9, if_neg (n9 (by omega)), lit_nI 7, pk_mul, nI_add, if_pos (in_nI (by omega) (by omega)), cl_nI (by omega), ct.2.1 (q (i - 1)) (q i) qp qi (by omega), z_sub, e73]
      have es : sV (Bv S v) q (i + 1) = sV (Bv S v) q i + Bv S v (q (i - 1)) (q i) := by
        obtain ⟨i', e⟩ : ∃ i', i = i' + 1 := ⟨i - 1, by omega⟩
        rw [e]; exact sV_s
      congr 2
      rw [es]; omega
  refine Eq.trans (lpG (w := fun (x : Int32 × Int32 × Int32) i => w_X1_flowerOfFirstRow_16 (nI n) (nI sz) (nI k) x.1 x.2.1 x.2.2 i (hG m ml pm)) (fun i => (ahd q i, nI (fre (S 5 2) q i), zI ((n : Int) - sV (Bv S v) q i))) (n := k + 1) (fun i hi => body i hi) 0 (by omega)) ?_
  show w_X1_flowerOfFirstRow_16 _ _ _ (ahd q (k + 1)) _ _ (nI (k + 1)) _ = _
  rw [e_X1_flowerOfFirstRow_16, if_pos (ylt (by omega) (by omega))]
  unfold ahd
  rw [if_neg (by omega), Nat.add_sub_cancel]
end G1
