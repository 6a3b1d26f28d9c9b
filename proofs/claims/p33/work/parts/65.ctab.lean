/-! the class's table of rows -/
def Bv (S : pS) (v f g : Nat) : Nat := bp S f (S 2 g) v
section C1
variable {S : pS}
theorem Ok.pF (ok : Ok S) {f : Nat} (h : (S 5 2).testBit f = true) : f < S 0 1 := by
  rcases Nat.lt_or_ge f (S 0 1) with q | q
  · exact q
  · have h1 : 2 ^ S 0 1 ≤ 2 ^ f := Nat.pow_le_pow_right (by omega) q
    rw [Nat.testBit_lt_two_pow (Nat.lt_of_lt_of_le ok.2.2.1.2.2.1 h1)] at h
    cases h
theorem Ok.Bb (ok : Ok S) {v f g : Nat} (hf : f < S 0 1) : Bv S v f g ≤ 30 := by
  have := bp_le (S := S) (f := f) (t := S 2 g) (v := v)
  have := ok.st hf
  unfold Bv; omega
theorem W_b (ok : Ok S) {v k : Nat} {r : Nat → Nat} (h : Row (S 5 2) (Bv S v) (k + 1) r) : sW (Bv S v) (S 3) r (k + 1) ≤ 210 ∧ 1 ≤ sW (Bv S v) (S 3) r (k + 1) ∧ k + 1 ≤ 7 ∧ sV (Bv S v) r (k + 1) ≤ 180 := by
  have F7 := ok.F7
  have k7 : k + 1 ≤ 7 := by
    have := pigeon (S 0 1) (k + 1) r (fun i hi => ok.pF (h.1 i hi)) h.2.1
    omega
  have b := sumN_b (g := fun i => Bv S v (r i) (r (i + 1))) (n := k) (B := 30) (fun i hi => ok.Bb (ok.pF (h.1 i (by omega))))
  have s := ok.st (ok.pF (h.1 k (by omega)))
  have e : sW (Bv S v) (S 3) r (k + 1) = sumN (fun i => Bv S v (r i) (r (i + 1))) k + S 3 (r k) := rfl
  have e2 : sV (Bv S v) r (k + 1) = sumN (fun i => Bv S v (r i) (r (i + 1))) k := rfl
  omega
theorem isMx_b (ok : Ok S) {v s f x : Nat} (h : isMx (S 5 2) (Bv S v) (S 3) s f x) : x ≤ 210 := by
  rcases h.2 with h | ⟨k, r, h1, _, _, e⟩
  · omega
  · have := W_b ok h1; omega
theorem bpz_b (ok : Ok S) {v f t : Nat} (hf : f < S 0 1) (ht : t ≤ 9) (hv : v ≤ 99) : -1000 ≤ bpz S f t v ∧ bpz S f t v ≤ 1000 := by
  have o1 := ok.st hf
  have o2 := ok.th hf
  have hl := hl0 ok hf
  unfold bpz
  generalize S 0 2 * S 5 (3 + f) / 10 = q at hl ⊢
  split <;> omega
/-- the places, and the table as far as it is done -/
def PT (S : pS) (v : Nat) (m : hM) (i j : Nat) : Prop := ∀ f g, f < S 0 1 → g < S 0 1 → (f < i ∨ (f = i ∧ g < j)) → m 21 (f * 7 + g) = zI (bpz S f (S 2 g) v)
def TT (S : pS) (v : Nat) (m : hM) (s j : Nat) : Prop := ∀ s' f', s' < 128 → f' < 7 → (s' < s ∨ (s' = s ∧ f' < j)) → ∃ x, m 22 (s' * 7 + f') = nI x ∧ isMx (S 5 2) (Bv S v) (S 3) s' f' x
variable {mi : hM} {ml : Nat → Nat → Int64} {pm : Nat → Option Nat} {T : Int64}
theorem x1_isIn (m : hM) {s f : Nat} (hs : s < 128) (hf : f < 8) : f_X1_isIn [.int (nI s), .int (nI f)] (hG m ml pm) = some (some (.int (b01 (s.testBit f))), hG m ml pm) := by
  rw [e_X1_isIn]
  by_cases q : s.testBit f = true
  · rw [if_pos ((bit_1 hs hf).mpr q), q]; rfl
  · rw [if_neg (fun h => q ((bit_1 hs hf).mp h)), Bool.eq_false_iff.mpr q]; rfl
theorem c_with (ok : Ok S) {m : hM} {v f g s x : Nat} (hv : v ≤ 99) (hf : f < S 0 1) (hg : g < S 0 1) (hs : s < 128) (pt : PT S v m (S 0 1) 0) (hx : m 22 (s * 7 + g) = nI x) (xb : x ≤ 210) : f_X1_inchesWith [.ref 20, .int (nI f), .int (nI g), .int (nI s)] (hG m ml pm) = some (some (.int (nI (if Bv S v f g = 0 ∨ x = 0 then 0 else Bv S v f g + x))), hG m ml pm) := by
  have F7 := ok.F7
  have pe := pt f g hf hg (by omega)
  have tb := (ok.th hg).2
  have bb := bpz_b ok hf tb hv
  rw [e_X1_inchesWith, lit_nI 7, pk_mul, pk_mul, nI_add, nI_add, if_pos (in_nI (by omega) (by omega)), if_pos (in_nI (by omega) (by omega)), cl_nI (by omega), cl_nI (by omega), hx, pe]
  have eb : Bv S v f g = (bpz S f (S 2 g) v).toNat := rfl
  by_cases c : Bv S v f g = 0
  · have lt : zI (bpz S f (S 2 g) v) < (1 : Int32) := show _ < zI 1 from (z_lt (by omega) (by omega) (by omega) (by omega)).mpr (by omega)
    rw [if_pos lt, if_pos (Or.inl c)]; rfl
  · have lt : ¬ zI (bpz S f (S 2 g) v) < (1 : Int32) := fun (q : _ < zI 1) => by
      have := (z_lt (by omega) (by omega) (by omega) (by omega)).mp q
      omega
    have ez : zI (bpz S f (S 2 g) v) = nI (Bv S v f g) := z_nat (by omega)
    rw [if_neg lt]
    by_cases d : x = 0
    · rw [if_pos (show nI x = 0 by rw [d]; rfl), if_pos (Or.inr d)]; rfl
    · rw [if_neg (nz d (by omega)), if_neg (fun q => by rcases q with q | q; exact c q; exact d q), ez, nI_add]
theorem del_l {s f : Nat} (hs : s < 128) (h : s.testBit f = true) : del s f < s := by
  have h1 : del s f ≤ s := Nat.and_le_left
  rcases Nat.lt_or_ge (del s f) s with q | q
  · exact q
  · have e : del s f = s := by omega
    have := (del_t (g := f) (f := f) hs).mp (by rw [e]; exact h)
    exact absurd rfl this.2
/-- what is gathered over the next ones below i -/
def AcX (S : pS) (v s f i acc : Nat) : Prop := (∀ k r, Row (S 5 2) (Bv S v) (k + 2) r → isS s (k + 2) r → r 0 = f → r 1 < i → sW (Bv S v) (S 3) r (k + 2) ≤ acc) ∧ (acc = 0 ∨ ∃ k r, Row (S 5 2) (Bv S v) (k + 2) r ∧ isS s (k + 2) r ∧ r 0 = f ∧ sW (Bv S v) (S 3) r (k + 2) = acc)
theorem AcX_b (ok : Ok S) {v s f i acc : Nat} (h : AcX S v s f i acc) : acc ≤ 210 := by
  rcases h.2 with h | ⟨k, r, h1, _, _, e⟩
  · omega
  · have h9 : sW (Bv S v) (S 3) r (k + 2) ≤ 210 := (W_b ok h1).1
    omega
theorem c_most27 (ok : Ok S) {m : hM} {v s f : Nat} (hv : v ≤ 99) (hs : s < 128) (hf : s.testBit f = true) (hsub : ∀ g, s.testBit g = true → (S 5 2).testBit g = true) (pt : PT S v m (S 0 1) 0) (tt : TT S v m s 0) : ∀ d i acc, i + d = 7 → AcX S v s f i acc → ∃ x, w_X1_mostFrom_27 (nI s) (nI f) (nI (del s f)) (nI acc) (nI i) (hG m ml pm) = some (some (.int (nI x)), hG m ml pm) ∧ AcX S v s f 7 x := by
  have F7 := ok.F7
  have fF := ok.pF (hsub f hf)
  have dl := del_lt f hs
  have dll := del_l hs hf
  intro d
  induction d with
  | zero =>
    intro i acc hi ac
    rw [e_X1_mostFrom_27, if_pos (show (7 : Int32) ≤ nI i from yle (a := 7) (by omega) (by omega))]
    refine ⟨acc, rfl, ?_⟩
    rw [← show i = 7 by omega]; exact ac
  | succ d ih =>
    intro i acc hi ac
    have ab := AcX_b ok ac
    rw [e_X1_mostFrom_27, if_neg (show ¬ (7 : Int32) ≤ nI i from fun c => absurd ((le_nI (a := 7) (by omega) (by omega)).mp c) (by omega)), x1_isIn m dl (by omega), bI_i, e_X1_mostFrom_41]
    cases hb : (del s f).testBit i with
    | false =>
      rw [if_pos (by decide), nI_1]
      refine ih (i + 1) acc (by omega) ⟨fun k r h1 h2 h3 h4 => ?_, ac.2⟩
      by_cases q : r 1 = i
      · have hr : (del s f).testBit (r 1) = true := (del_t hs).mpr ⟨(h2 (r 1)).mpr ⟨1, by omega, rfl⟩, fun c => by have := h1.2.1 1 0 (by omega) (by omega) (by rw [c, h3]); omega⟩
        rw [q, hb] at hr; cases hr
      · exact ac.1 k r h1 h2 h3 (by omega)
    | true =>
      obtain ⟨si, ine⟩ := (del_t hs).mp hb
      have iF := ok.pF (hsub i si)
      obtain ⟨x, hx, mx⟩ := tt (del s f) i dl (by omega) (by omega)
      have xb := isMx_b ok mx
      rw [if_neg (by decide), c_with ok hv fF iF dl pt hx xb, bI_i, e_X1_mostFrom_55, nI_1]
      have Bb := ok.Bb (v := v) (g := i) fF
      generalize hc : (if Bv S v f i = 0 ∨ x = 0 then 0 else Bv S v f i + x) = c
      have cb : c ≤ 240 := by rw [← hc]; split <;> omega
      have em : (if nI acc < nI c then nI c else nI acc) = nI (if acc < c then c else acc) := by
        by_cases q : acc < c
        · rw [if_pos (ylt q (by omega)), if_pos q]
        · rw [if_neg (nlt (by omega) (by omega)), if_neg q]
      rw [em]
      refine ih (i + 1) _ (by omega) ⟨fun k r h1 h2 h3 h4 => ?_, ?_⟩
      · by_cases q : r 1 = i
        · have e1 : sW (Bv S v) (S 3) r (k + 2) = Bv S v (r 0) (r 1) + sW (Bv S v) (S 3) (shR r) (k + 1) := sW_f
          have h5 := mx.1 k (shR r) (Row_sh h1) (by have := isS_sh hs h1 h2; rwa [h3] at this) q
          have h6 := (W_b ok (Row_sh h1)).2.1
          have h7 := h1.2.2 0 (by omega)
          rw [h3, q] at e1
          rw [h3, q] at h7
          have : c = Bv S v f i + x := by rw [← hc, if_neg (by omega)]
          split <;> omega
        · have := ac.1 k r h1 h2 h3 (by omega)
          split <;> omega
      · by_cases q : acc < c
        · rw [if_pos q]
          refine Or.inr ?_
          have h8 : ¬ (Bv S v f i = 0 ∨ x = 0) := fun z => by rw [if_pos z] at hc; omega
          rcases mx.2 with z | ⟨k, r, h1, h2, h3, h4⟩
          · omega
          · refine ⟨k, coR f r, Row_co h1 (hsub f hf) (fun j hj e => ?_) (by rw [h3]; omega), isS_co hs hf h2, rfl, ?_⟩
            · have := (del_t hs).mp ((h2 (r j)).mpr ⟨j, hj, rfl⟩)
              exact this.2 e
            · rw [sW_f]
              have e1 : shR (coR f r) = r := by funext j; exact coR_s f r j
              rw [e1, h4, ← hc, if_neg h8, show coR f r 1 = r 0 from coR_s f r 0, h3]; rfl
        · rw [if_neg q]; exact ac.2
theorem c_mostFrom (k0 : Cl mi ml pm S T) (ok : Ok S) {v s f : Nat} (hv : v ≤ 99) (hs : s < 128) (hf : s.testBit f = true) (hsub : ∀ g, s.testBit g = true → (S 5 2).testBit g = true) (pt : PT S v mi (S 0 1) 0) (tt : TT S v mi s 0) : ∃ x, f_X1_mostFrom [.ref 20, .ref 7, .int (nI s), .int (nI f)] (hG mi ml pm) = some (some (.int (nI x)), hG mi ml pm) ∧ isMx (S 5 2) (Bv S v) (S 3) s f x := by
  have F7 := ok.F7
  have fF := ok.pF (hsub f hf)
  rw [e_X1_mostFrom, del_i s hs f (by omega)]
  by_cases z : del s f = 0
  · rw [if_pos (show nI (del s f) = 0 by rw [z]; rfl), if_pos (in_nI (by omega) (by omega)), cl_nI (by omega), c_st k0 _ fF]
    have k0' : ∀ k r, Row (S 5 2) (Bv S v) (k + 1) r → isS s (k + 1) r → r 0 = f → k = 0 := by
      intro k r h1 h2 h3
      cases k with
      | zero => rfl
      | succ k =>
        have hr : (del s f).testBit (r 1) = true := (del_t hs).mpr ⟨(h2 (r 1)).mpr ⟨1, by omega, rfl⟩, fun c => by have := h1.2.1 1 0 (by omega) (by omega) (by rw [c, h3]); omega⟩
        rw [z, Nat.zero_testBit] at hr; cases hr
    refine ⟨S 3 f, rfl, fun k r h1 h2 h3 => ?_, Or.inr ⟨0, fun _ => f, ⟨fun i _ => hsub f hf, fun i j hi hj _ => by omega, fun i hi => by omega⟩, fun g => ?_, rfl, sW_1 _⟩⟩
    · have := k0' k r h1 h2 h3
      subst this
      rw [sW_1, h3]; exact Nat.le_refl _
    · constructor
      · intro hg
        by_cases q : g = f
        · exact ⟨0, by omega, q.symm⟩
        · have := (del_t (f := f) hs).mpr ⟨hg, q⟩
          rw [z, Nat.zero_testBit] at this; cases this
      · rintro ⟨i, _, e⟩
        rw [← show f = g from e]; exact hf
  · rw [if_neg (nz z (by have := del_lt f hs; omega))]
    obtain ⟨x, r1, r2⟩ := c_most27 (ml := ml) (pm := pm) ok hv hs hf hsub pt tt 7 0 0 (by omega) ⟨fun k r _ _ _ c => by omega, Or.inl rfl⟩
    refine ⟨x, r1, fun k r h1 h2 h3 => ?_, ?_⟩
    · cases k with
      | zero =>
        exfalso
        apply z
        apply Nat.eq_of_testBit_eq
        intro g
        rw [Nat.zero_testBit]
        cases q : (del s f).testBit g with
        | false => rfl
        | true =>
          obtain ⟨a, b⟩ := (del_t hs).mp q
          obtain ⟨i, hi, e⟩ := (h2 g).mp a
          rw [show i = 0 by omega, h3] at e
          exact absurd e.symm b
      | succ k =>
        have r7 : r 1 < 7 := by have := ok.pF (h1.1 1 (by omega)); omega
        exact r2.1 k r h1 h2 h3 r7
    · rcases r2.2 with e | ⟨k, r, h1, h2, h3, h4⟩
      · exact Or.inl e
      · exact Or.inr ⟨k + 1, r, h1, h2, h3, h4⟩
/-- what is left of the class -/
def FrT (m1 m : hM) : Prop := (∀ c, c < 20 ∨ 22 < c → m1 c = m c) ∧ m1 20 = m 20
theorem c_prep1 (ok : Ok S) {v : Nat} (hv : v ≤ 99) : ∀ d i e j (m : hM), Cl m ml pm S T → i + d = S 0 1 → j + e = S 0 1 → i < S 0 1 → PT S v m i j → ∃ m1 : hM, w_X1_prepare_23 (nI v) (nI i) (nI j) (hG m ml pm) = w_X1_prepare_75 (nI v) 0 (hG m1 ml pm) ∧ FrT m1 m ∧ PT S v m1 (S 0 1) 0 := by
  have F7 := ok.F7
  intro d
  induction d with
  | zero => intro i e j m _ hi _ h; omega
  | succ d ihd =>
    intro i e
    induction e with
    | zero =>
      intro j m k hi hj hlt pt
      rw [e_X1_prepare_23, c_F k, if_pos (yle (by omega) (by omega)), nI_1, e_X1_prepare_11, c_F k]
      have pt' : PT S v m (i + 1) 0 := fun f g h1 h2 h3 => pt f g h1 h2 (by omega)
      by_cases q : S 0 1 ≤ i + 1
      · rw [if_pos (yle q (by omega))]
        exact ⟨m, rfl, ⟨fun _ _ => rfl, rfl⟩, fun f g h1 h2 h3 => pt' f g h1 h2 (by omega)⟩
      · rw [if_neg (nle (by omega) (by omega))]
        exact ihd (i + 1) (S 0 1) 0 m k (by omega) (by omega) (by omega) pt'
    | succ e ihe =>
      intro j m k hi hj hlt pt
      have tb := (ok.th (f := j) (by omega)).2
      rw [e_X1_prepare_23, c_F k, if_neg (nle (by omega) (by omega)), if_pos (in_nI (by omega) (by omega)), cl_nI (by omega), c_th k _ (by omega), c_bestPlace k ok hlt tb hv, bI_i, e_X1_prepare_59, lit_nI 7, pk_mul, nI_add, if_pos (in_nI (by omega) (by omega)), cl_nI (by omega), nI_1]
      obtain ⟨m1, r1, r2, r3⟩ := ihe (j + 1) (hw m 21 (i * 7 + j) (zI (bpz S i (S 2 j) v))) (Cl_fx k (fun c hc => hw_oo _ _ _ (by omega))) (by omega) (by omega) hlt (fun f g h1 h2 h3 => by
        by_cases q : f = i ∧ g = j
        · rw [q.1, q.2, hw_c]
        · rw [hw_k _ _ _ (by omega)]; exact pt f g h1 h2 (by omega))
      exact ⟨m1, r1, ⟨fun c hc => by rw [r2.1 c hc, hw_oo _ _ _ (by omega)], by rw [r2.2, hw_oo _ _ _ (by omega)]⟩, r3⟩
theorem c_prep2 (ok : Ok S) {v : Nat} (hv : v ≤ 99) : ∀ d s e j (m : hM), Cl m ml pm S T → m 20 2 = nI (S 5 2) → PT S v m (S 0 1) 0 → s + d = 128 → j + e = 7 → s < 128 → TT S v m s j → ∃ m1 : hM, w_X1_prepare_86 (nI v) (nI s) (nI j) (hG m ml pm) = some (none, hG m1 ml pm) ∧ FrT m1 m ∧ PT S v m1 (S 0 1) 0 ∧ TT S v m1 128 0 := by
  have F7 := ok.F7
  intro d
  induction d with
  | zero => intro s e j m _ _ _ hi _ h; omega
  | succ d ihd =>
    intro s e
    induction e with
    | zero =>
      intro j m k h20 pt hi hj hlt tt
      rw [e_X1_prepare_86, if_pos (show (7 : Int32) ≤ nI j from yle (a := 7) (by omega) (by omega)), nI_1, e_X1_prepare_75]
      have tt' : TT S v m (s + 1) 0 := fun s' f' h1 h2 h3 => tt s' f' h1 h2 (by omega)
      by_cases q : 128 ≤ s + 1
      · rw [if_pos (show (128 : Int32) ≤ nI (s + 1) from yle (a := 128) q (by omega))]
        exact ⟨m, rfl, ⟨fun _ _ => rfl, rfl⟩, pt, fun s' f' h1 h2 h3 => tt' s' f' h1 h2 (by omega)⟩
      · rw [if_neg (show ¬ (128 : Int32) ≤ nI (s + 1) from fun c => q ((le_nI (a := 128) (by omega) (by omega)).mp c))]
        exact ihd (s + 1) 7 0 m k h20 pt (by omega) (by omega) (by omega) tt'
    | succ e ihe =>
      intro j m k h20 pt hi hj hlt tt
      have nx : ∀ x, isMx (S 5 2) (Bv S v) (S 3) s j x → ∃ m1 : hM, w_X1_prepare_86 (nI v) (nI s) (nI (j + 1)) (hG (hw m 22 (s * 7 + j) (nI x)) ml pm) = some (none, hG m1 ml pm) ∧ FrT m1 m ∧ PT S v m1 (S 0 1) 0 ∧ TT S v m1 128 0 := by
        intro x hx
        obtain ⟨m1, r1, r2, r3, r4⟩ := ihe (j + 1) (hw m 22 (s * 7 + j) (nI x)) (Cl_fx k (fun c hc => hw_oo _ _ _ (by omega))) (by rw [hw_oo _ _ _ (by omega)]; exact h20) (fun f g h1 h2 h3 => by rw [hw_oo _ _ _ (by omega)]; exact pt f g h1 h2 h3) (by omega) (by omega) hlt (fun s' f' h1 h2 h3 => by
          by_cases q : s' = s ∧ f' = j
          · rw [q.1, q.2, hw_c]; exact ⟨x, rfl, hx⟩
          · rw [hw_k _ _ _ (by omega)]; exact tt s' f' h1 h2 (by omega))
        exact ⟨m1, r1, ⟨fun c hc => by rw [r2.1 c hc, hw_oo _ _ _ (by omega)], by rw [r2.2, hw_oo _ _ _ (by omega)]⟩, r3, r4⟩
      have none' : ¬ (s.testBit j = true ∧ ∀ g, s.testBit g = true → (S 5 2).testBit g = true) → isMx (S 5 2) (Bv S v) (S 3) s j 0 := by
        intro hn
        refine ⟨fun k r h1 h2 h3 => absurd ⟨?_, ?_⟩ hn, Or.inl rfl⟩
        · exact (h2 j).mpr ⟨0, by omega, h3⟩
        · intro g hg
          obtain ⟨i, hi, e⟩ := (h2 g).mp hg
          rw [← e]; exact h1.1 i hi
      rw [e_X1_prepare_86, if_neg (show ¬ (7 : Int32) ≤ nI j from fun c => absurd ((le_nI (a := 7) (by omega) (by omega)).mp c) (by omega)), e_X1_canBegin, x1_isIn m hlt (by omega), bI_i, e_X1_canBegin_5, h20, lit_nI 7, pk_mul, nI_add]
      cases hb : s.testBit j with
      | false =>
        rw [if_pos (by decide), bI_i, e_X1_prepare_113, if_pos rfl, if_pos (in_nI (by omega) (by omega)), cl_nI (by omega), nI_1]
        exact nx 0 (none' (fun c => by rw [hb] at c; cases c.1))
      | true =>
        rw [if_neg (by decide)]
        by_cases hsub : ∀ g, s.testBit g = true → (S 5 2).testBit g = true
        · rw [if_pos ((sub_0 hlt ok.pk).mpr hsub), bI_i, e_X1_prepare_113, if_neg (by decide)]
          obtain ⟨x, r1, r2⟩ := c_mostFrom k ok hv hlt hb hsub pt (fun s' f' h1 h2 h3 => tt s' f' h1 h2 (by omega))
          rw [r1, bI_i, e_X1_prepare_125, if_pos (in_nI (by omega) (by omega)), cl_nI (by omega), nI_1]
          exact nx x r2
        · rw [if_neg (fun c => hsub ((sub_0 hlt ok.pk).mp c)), bI_i, e_X1_prepare_113, if_pos rfl, if_pos (in_nI (by omega) (by omega)), cl_nI (by omega), nI_1]
          exact nx 0 (none' (fun c => hsub c.2))
/-- the class has prepared its search -/
def CTb (S : pS) (v : Nat) (m : hM) : Prop := m 20 2 = nI (S 5 2) ∧ PT S v m (S 0 1) 0 ∧ TT S v m 128 0
theorem c_prepare (k : Cl mi ml pm S T) (ok : Ok S) {v : Nat} (hv : v ≤ 99) : ∃ m1 : hM, f_X1_prepare [.ref 20, .ref 7, .ref 11, .int (nI v)] (hG mi ml pm) = some (none, hG m1 ml pm) ∧ (∀ c, c < 20 ∨ 22 < c → m1 c = mi c) ∧ CTb S v m1 := by
  have F7 := ok.F7
  rw [e_X1_prepare, c_pk k]
  have k1 : Cl (hw mi 20 2 (nI (S 5 2))) ml pm S T := Cl_fx k (fun c hc => hw_oo _ _ _ (by omega))
  have fin : ∀ m : hM, Cl m ml pm S T → FrT m (hw mi 20 2 (nI (S 5 2))) → PT S v m (S 0 1) 0 → ∃ m1 : hM, w_X1_prepare_75 (nI v) 0 (hG m ml pm) = some (none, hG m1 ml pm) ∧ (∀ c, c < 20 ∨ 22 < c → m1 c = mi c) ∧ CTb S v m1 := by
    intro m km fr pt
    rw [e_X1_prepare_75, if_neg (by decide)]
    obtain ⟨m1, r1, r2, r3, r4⟩ := c_prep2 ok hv 128 0 7 0 m km (by rw [fr.2, hw_c]) pt (by omega) (by omega) (by omega) (fun s' f' h1 h2 h3 => by omega)
    exact ⟨m1, r1, fun c hc => by rw [r2.1 c hc, fr.1 c hc, hw_oo _ _ _ (by omega)], by rw [r2.2, fr.2, hw_c], r3, r4⟩
  rw [e_X1_prepare_11, c_F k1]
  by_cases z : S 0 1 = 0
  · rw [if_pos (show nI (S 0 1) ≤ 0 from yle (b := 0) (by omega) (by omega))]
    exact fin _ k1 ⟨fun _ _ => rfl, rfl⟩ (fun f g h1 => by omega)
  · rw [if_neg (npos (by omega) (by omega))]
    obtain ⟨m1, r1, r2, r3⟩ := c_prep1 ok hv (S 0 1) 0 (S 0 1) 0 _ k1 (by omega) (by omega) (by omega) (fun f g h1 h2 h3 => by omega)
    rw [show (0 : Int32) = nI 0 from rfl, r1]
    exact fin m1 (Cl_fx k1 (fun c hc => r2.1 c (by omega))) r2 r3
end C1
