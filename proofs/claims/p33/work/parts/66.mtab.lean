/-! the model's table of rows -/
def enc (y : Nat) : Int32 := if y = 0 then -9 else nI (y - 1)
theorem enc_0 : enc 0 = -9 := rfl
theorem enc_s (y : Nat) : enc (y + 1) = nI y := by unfold enc; rw [if_neg (by omega), Nat.add_sub_cancel]
theorem enc_9 {y : Nat} (h : y ≤ 1000) : enc y = -9 ↔ y = 0 := by
  cases y with
  | zero => exact ⟨fun _ => rfl, fun _ => rfl⟩
  | succ y => rw [enc_s]; exact ⟨fun c => absurd c (n9 (by omega)), fun c => by omega⟩
theorem enc_le {c y : Nat} (hc : c ≤ 1000) (h : y ≤ 1000) : nI c ≤ enc y ↔ c < y := by
  cases y with
  | zero =>
    rw [enc_0]
    refine ⟨fun q => ?_, fun q => by omega⟩
    have := Int32.le_iff_toInt_le.mp q
    rw [nI_toInt (by omega), show (-9 : Int32).toInt = -9 from by decide] at this
    omega
  | succ y => rw [enc_s, le_nI (by omega) (by omega)]; omega
theorem hw_same (m : hM) (c k : Nat) : hw m c k (m c k) = m := by
  funext c' k'
  unfold hw
  by_cases h : c' = c
  · rw [if_pos h]
    by_cases h2 : k' = k
    · rw [if_pos h2, h, h2]
    · rw [if_neg h2]
  · rw [if_neg h]
section D1
variable {S : pS} {ml : Nat → Nat → Int64} {pm : Nat → Option Nat} {T : Int64}
def AcL (S : pS) (v s f i y : Nat) : Prop := (∀ k r, Row (S 5 2) (Bv S v) (k + 1) r → isS s (k + 1) r → r k = f → (k = 0 ∨ r (k - 1) < i) → sV (Bv S v) r (k + 1) < y) ∧ (y = 0 ∨ ∃ k r, Row (S 5 2) (Bv S v) (k + 1) r ∧ isS s (k + 1) r ∧ r k = f ∧ sV (Bv S v) r (k + 1) + 1 = y)
def MTT (S : pS) (v : Nat) (m : hM) (s j : Nat) : Prop := ∀ s' f', 1 ≤ s' → s' < 128 → f' < 7 → (s' < s ∨ (s' = s ∧ f' < j)) → ∃ y, m 111 (7 * s' + f') = enc y ∧ isMl (S 5 2) (Bv S v) s' f' y
theorem AcL_b (ok : Ok S) {v s f i y : Nat} (h : AcL S v s f i y) : y ≤ 181 := by
  rcases h.2 with h | ⟨k, r, h1, _, _, e⟩
  · omega
  · have := (W_b ok h1).2.2.2; omega
theorem isMl_b (ok : Ok S) {v s f y : Nat} (h : isMl (S 5 2) (Bv S v) s f y) : y ≤ 181 := by
  rcases h.2 with h | ⟨k, r, h1, _, _, e⟩
  · omega
  · have := (W_b ok h1).2.2.2; omega
theorem m_puts82 (ok : Ok S) {v s f : Nat} (hv : v ≤ 99) (hs : s < 128) (hf : s.testBit f = true) (hsub : ∀ g, s.testBit g = true → (S 5 2).testBit g = true) : ∀ d e y (m : hM), Ml m ml S T → e + d = S 0 1 → m 111 (7 * s + f) = enc y → MTT S v m s f → AcL S v s f e y → ∃ (m1 : hM) (y' : Nat), w_X6_puts_82 (nI v) (nI s) (nI f) (nI (7 * s + f)) 1 (nI e) (hG m ml pm) = w_X6_puts_11 (nI v) (nI s) (nI (f + 1)) (hG m1 ml pm) ∧ (∀ c, c ≠ 111 → m1 c = m c) ∧ (∀ x, x ≠ 7 * s + f → m1 111 x = m 111 x) ∧ m1 111 (7 * s + f) = enc y' ∧ AcL S v s f (S 0 1) y' := by
  have F7 := ok.F7
  have fF := ok.pF (hsub f hf)
  have dl := del_lt f hs
  have dll := del_l hs hf
  intro d
  induction d with
  | zero =>
    intro e y m k he hy tt ac
    rw [e_X6_puts_82, m_F k, if_pos (yle (by omega) (by omega)), nI_1]
    refine ⟨m, y, rfl, fun _ _ => rfl, fun _ _ => rfl, hy, ?_⟩
    rw [← show e = S 0 1 by omega]; exact ac
  | succ d ih =>
    intro e y m k he hy tt ac
    have yb := AcL_b ok ac
    have same : (∀ k r, Row (S 5 2) (Bv S v) (k + 2) r → isS s (k + 2) r → r (k + 1) = f → r k = e → sV (Bv S v) r (k + 2) < y) → ∃ (m1 : hM) (y' : Nat), w_X6_puts_82 (nI v) (nI s) (nI f) (nI (7 * s + f)) 1 (nI (e + 1)) (hG m ml pm) = w_X6_puts_11 (nI v) (nI s) (nI (f + 1)) (hG m1 ml pm) ∧ (∀ c, c ≠ 111 → m1 c = m c) ∧ (∀ x, x ≠ 7 * s + f → m1 111 x = m 111 x) ∧ m1 111 (7 * s + f) = enc y' ∧ AcL S v s f (S 0 1) y' := by
      intro hh
      refine ih (e + 1) y m k (by omega) hy tt ⟨fun kk r h1 h2 h3 h4 => ?_, ac.2⟩
      by_cases q : kk = 0 ∨ r (kk - 1) < e
      · exact ac.1 kk r h1 h2 h3 q
      · cases kk with
        | zero => exact absurd (Or.inl rfl) q
        | succ kk =>
          refine hh kk r h1 h2 h3 ?_
          have h5 : ¬ r kk < e := fun c => q (Or.inr c)
          rcases h4 with h4 | h4
          · omega
          · have h6 : r kk < e + 1 := h4
            omega
    have e201 : ∀ a b, w_X6_puts_201 (nI v) (nI s) (nI f) (nI (7 * s + f)) 1 (nI e) a b (nI (7 * s + f)) (hG m ml pm) = w_X6_puts_82 (nI v) (nI s) (nI f) (nI (7 * s + f)) 1 (nI (e + 1)) (hG m ml pm) := by
      intro a b
      rw [e_X6_puts_201, if_pos (in_nI (by omega) (by omega)), if_pos (in_nI (by omega) (by omega)), cl_nI (by omega), hw_same, nI_1]
    have e113 : w_X6_puts_113 (nI v) (nI s) (nI f) (nI (7 * s + f)) 1 (nI e) (hG m ml pm) = w_X6_puts_82 (nI v) (nI s) (nI f) (nI (7 * s + f)) 1 (nI (e + 1)) (hG m ml pm) := by
      rw [e_X6_puts_113, e_X6_puts_136, if_pos rfl, e_X6_puts_163, if_pos rfl, e201]
    have noE : ¬ (del s f).testBit e = true → ∀ k r, Row (S 5 2) (Bv S v) (k + 2) r → isS s (k + 2) r → r (k + 1) = f → r k = e → sV (Bv S v) r (k + 2) < y := by
      intro hn k r h1 h2 h3 h4
      refine absurd ((del_t hs).mpr ⟨(h2 e).mpr ⟨k, by omega, h4⟩, fun c => ?_⟩) hn
      have := h1.2.1 k (k + 1) (by omega) (by omega) (by rw [h3, h4, c]); omega
    rw [e_X6_puts_82, m_F k, if_neg (nle (by omega) (by omega)), if_neg (by decide)]
    by_cases q1 : e = f
    · rw [if_pos (show nI e = nI f by rw [q1]), e113]
      exact same (noE (fun c => ((del_t hs).mp c).2 q1))
    · rw [if_neg (fun c => q1 ((eq_nI (by omega) (by omega)).mp c))]
      cases hb : s.testBit e with
      | false =>
        rw [if_pos ((bit_0 hs (by omega)).mpr hb), e113]
        exact same (noE (fun c => by rw [((del_t hs).mp c).1] at hb; cases hb))
      | true =>
        have eD : (del s f).testBit e = true := (del_t hs).mpr ⟨hb, q1⟩
        have d1 : 1 ≤ del s f := by
          rcases Nat.eq_zero_or_pos (del s f) with z | z
          · rw [z, Nat.zero_testBit] at eD; cases eD
          · exact z
        obtain ⟨ye, hye, mx⟩ := tt (del s f) e d1 dl (by omega) (by omega)
        have yeb := isMl_b ok mx
        rw [if_neg (fun c => by rw [(bit_0 hs (by omega)).mp c] at hb; cases hb), del_i s hs f (by omega), lit_nI 7, pk_mul, nI_add, if_pos (in_nI (by omega) (by omega)), cl_nI (by omega), hye, e_X6_puts_136]
        have low : (ye = 0 ∨ Bv S v e f = 0) → ∀ k r, Row (S 5 2) (Bv S v) (k + 2) r → isS s (k + 2) r → r (k + 1) = f → r k = e → sV (Bv S v) r (k + 2) < y := by
          intro z k r h1 h2 h3 h4
          have h5 := mx.1 k r (Row_le h1 (by omega)) (by have := isS_la hs h1 h2; rwa [h3] at this) h4
          have h6 := h1.2.2 k (by omega)
          rw [h3, h4] at h6
          omega
        by_cases z : ye = 0
        · rw [if_pos (by rw [z]; rfl), e_X6_puts_163, if_pos rfl, e201]
          exact same (low (Or.inl z))
        · have tb := (ok.th fF).2
          rw [if_neg (fun c => z ((enc_9 (by omega)).mp c)), if_pos (in_nI (by omega) (by omega)), cl_nI (by omega), m_th k _ fF, m_bestPlace k ok (by omega) tb hv, bI_i, e_X6_puts_163, show bp S e (S 2 f) v = Bv S v e f from rfl]
          by_cases zb : Bv S v e f = 0
          · rw [if_pos zb, if_pos rfl, e201]
            exact same (low (Or.inr zb))
          · have Bb := ok.Bb (v := v) (g := f) (f := e) (by omega)
            have ee : enc ye = nI (ye - 1) := by unfold enc; rw [if_neg z]
            rw [if_neg zb, if_neg (n9 (by omega)), if_pos (in_nI (by omega) (by omega)), if_pos (in_nI (by omega) (by omega)), cl_nI (by omega), hy, ee, nI_add]
            have up : ∀ k r, Row (S 5 2) (Bv S v) (k + 2) r → isS s (k + 2) r → r (k + 1) = f → r k = e → sV (Bv S v) r (k + 2) < ye + Bv S v e f := by
              intro k r h1 h2 h3 h4
              have h5 := mx.1 k r (Row_le h1 (by omega)) (by have := isS_la hs h1 h2; rwa [h3] at this) h4
              rw [sV_s, h3, h4]; omega
            by_cases c : ye - 1 + Bv S v e f < y
            · rw [if_pos ((enc_le (by omega) (by omega)).mpr c), e201]
              exact same (fun k r h1 h2 h3 h4 => by have := up k r h1 h2 h3 h4; omega)
            · rw [if_neg (fun x => c ((enc_le (by omega) (by omega)).mp x)), nI_1]
              have ac' : AcL S v s f (e + 1) (ye + Bv S v e f) := by
                refine ⟨fun kk r h1 h2 h3 h4 => ?_, ?_⟩
                · by_cases q : kk = 0 ∨ r (kk - 1) < e
                  · have := ac.1 kk r h1 h2 h3 q; omega
                  · cases kk with
                    | zero => exact absurd (Or.inl rfl) q
                    | succ kk =>
                      refine up kk r h1 h2 h3 ?_
                      have h5 : ¬ r kk < e := fun c => q (Or.inr c)
                      rcases h4 with h4 | h4
                      · omega
                      · have h6 : r kk < e + 1 := h4
                        omega
                · rcases mx.2 with z' | ⟨k', r, h1, h2, h3, h4⟩
                  · exact absurd z' z
                  · have en1 : enR r (k' + 1) f (k' + 1) = f := by unfold enR; rw [if_pos rfl]
                    have en2 : ∀ i, i < k' + 1 → enR r (k' + 1) f i = r i := fun i hi => by unfold enR; rw [if_neg (by omega)]
                    refine Or.inr ⟨k' + 1, enR r (k' + 1) f, Row_en h1 (hsub f hf) (fun i hi c => ((del_t hs).mp ((h2 (r i)).mpr ⟨i, hi, rfl⟩)).2 c) (by rw [h3]; omega), isS_en hs hf h2, en1, ?_⟩
                    rw [sV_s, en1, en2 k' (by omega), h3, sV_e (by omega) en2]
                    omega
              obtain ⟨m1, y', r1, r2, r3, r4, r5⟩ := ih (e + 1) (ye + Bv S v e f) (hw m 111 (7 * s + f) (nI (ye - 1 + Bv S v e f))) (Ml_fx k (fun c h1 _ => hw_oo _ _ _ h1)) (by omega) (by rw [hw_c]; unfold enc; rw [if_neg (by omega)]; congr 1; omega) (fun s' f' h0 h1 h2 h3 => by rw [hw_k _ _ _ (by omega)]; exact tt s' f' h0 h1 h2 h3) ac'
              exact ⟨m1, y', r1, fun c hc => by rw [r2 c hc, hw_oo _ _ _ hc], fun x hx => by rw [r3 x hx, hw_k _ _ _ hx], r4, r5⟩
theorem m_puts11 (ok : Ok S) {v : Nat} (hv : v ≤ 99) : ∀ d s e f (m : hM), Ml m ml S T → s + d = 128 → f + e = 7 → 1 ≤ s → s < 128 → MTT S v m s f → ∃ m1 : hM, w_X6_puts_11 (nI v) (nI s) (nI f) (hG m ml pm) = some (none, hG m1 ml pm) ∧ (∀ c, c ≠ 111 → m1 c = m c) ∧ MTT S v m1 128 0 := by
  have F7 := ok.F7
  intro d
  induction d with
  | zero => intro s e f m _ h _ _ h2; omega
  | succ d ihd =>
    intro s e
    induction e with
    | zero =>
      intro f m k hi hj h1 hlt tt
      rw [e_X6_puts_11, if_pos (show (7 : Int32) ≤ nI f from yle (a := 7) (by omega) (by omega)), nI_1, e_X6_puts_2]
      have tt' : MTT S v m (s + 1) 0 := fun s' f' h0 h1 h2 h3 => tt s' f' h0 h1 h2 (by omega)
      by_cases q : 128 ≤ s + 1
      · rw [if_pos (show (128 : Int32) ≤ nI (s + 1) from yle (a := 128) q (by omega))]
        exact ⟨m, rfl, fun _ _ => rfl, fun s' f' h0 h1 h2 h3 => tt' s' f' h0 h1 h2 (by omega)⟩
      · rw [if_neg (show ¬ (128 : Int32) ≤ nI (s + 1) from fun c => q ((le_nI (a := 128) (by omega) (by omega)).mp c))]
        exact ihd (s + 1) 7 0 m k (by omega) (by omega) (by omega) (by omega) tt'
    | succ e ihe =>
      intro f m k hi hj h1 hlt tt
      have nx : ∀ (m2 : hM) y, (∀ c, c ≠ 111 → m2 c = m c) → (∀ x, x ≠ 7 * s + f → m2 111 x = m 111 x) → m2 111 (7 * s + f) = enc y → isMl (S 5 2) (Bv S v) s f y → ∃ m1 : hM, w_X6_puts_11 (nI v) (nI s) (nI (f + 1)) (hG m2 ml pm) = some (none, hG m1 ml pm) ∧ (∀ c, c ≠ 111 → m1 c = m c) ∧ MTT S v m1 128 0 := by
        intro m2 y g1 g2 g3 g4
        obtain ⟨m1, r1, r2, r3⟩ := ihe (f + 1) m2 (Ml_fx k (fun c h _ => g1 c h)) (by omega) (by omega) h1 hlt (fun s' f' h0 h1 h2 h3 => by
          by_cases q : s' = s ∧ f' = f
          · rw [q.1, q.2]; exact ⟨y, g3, g4⟩
          · rw [g2 _ (by omega)]; exact tt s' f' h0 h1 h2 (by omega))
        exact ⟨m1, r1, fun c hc => by rw [r2 c hc, g1 c hc], r3⟩
      have not' : ¬ (s.testBit f = true ∧ ∀ g, s.testBit g = true → (S 5 2).testBit g = true) → ∃ m1 : hM, w_X6_puts_51 (nI v) (nI s) (nI f) (nI (7 * s + f)) (hG m ml pm) = some (none, hG m1 ml pm) ∧ (∀ c, c ≠ 111 → m1 c = m c) ∧ MTT S v m1 128 0 := by
        intro hn
        have k2 : Ml (hw m 111 (7 * s + f) (-9)) ml S T := Ml_fx k (fun c h _ => hw_oo _ _ _ h)
        rw [e_X6_puts_51, e_X6_puts_52, if_pos rfl, if_pos (in_nI (by omega) (by omega)), cl_nI (by omega), e_X6_puts_82, if_pos rfl, nI_1, ite_self]
        refine nx _ 0 (fun c hc => hw_oo _ _ _ hc) (fun x hx => hw_k _ _ _ hx) (hw_c _ _ _ _) ⟨fun kk r h1 h2 h3 => absurd ⟨?_, ?_⟩ hn, Or.inl rfl⟩
        · exact (h2 f).mpr ⟨kk, by omega, h3⟩
        · intro g hg
          obtain ⟨i, hi, e⟩ := (h2 g).mp hg
          rw [← e]; exact h1.1 i hi
      rw [e_X6_puts_11, if_neg (show ¬ (7 : Int32) ≤ nI f from fun c => absurd ((le_nI (a := 7) (by omega) (by omega)).mp c) (by omega)), m_s k 2 (by omega), lit_nI 7, pk_mul, nI_add]
      by_cases hsub : ∀ g, s.testBit g = true → (S 5 2).testBit g = true
      · rw [if_pos ((sub_0 hlt ok.pk).mpr hsub)]
        by_cases hb : s.testBit f = true
        · rw [if_pos ((bit_1 hlt (by omega)).mpr hb), e_X6_puts_52, if_neg (by decide), sh_t f (by omega), if_pos (in_nI (by omega) (by omega)), if_pos (in_nI (by omega) (by omega)), cl_nI (by omega)]
          have p7 : 2 ^ f < 128 := Nat.pow_lt_pow_right (a := 2) (n := 7) (by omega) (by omega)
          have one : ∀ r, isS s 1 r → r 0 = f → s = 2 ^ f := by
            intro r h2 h3
            apply Nat.eq_of_testBit_eq
            intro g
            rw [Nat.testBit_two_pow]
            cases q : s.testBit g with
            | true =>
              obtain ⟨i, hi, e⟩ := (h2 g).mp q
              rw [show i = 0 by omega, h3] at e
              rw [decide_eq_true e]
            | false =>
              rw [decide_eq_false]
              intro e
              rw [(h2 g).mpr ⟨0, by omega, by rw [h3, e]⟩] at q; cases q
          have go : ∀ y, (s = 2 ^ f → y = 1) → (¬ s = 2 ^ f → y = 0) → ∃ m1 : hM, w_X6_puts_82 (nI v) (nI s) (nI f) (nI (7 * s + f)) 1 0 (hG (hw m 111 (7 * s + f) (enc y)) ml pm) = some (none, hG m1 ml pm) ∧ (∀ c, c ≠ 111 → m1 c = m c) ∧ MTT S v m1 128 0 := by
            intro y hy1 hy0
            have ac0 : AcL S v s f 0 y := by
              refine ⟨fun kk r h1 h2 h3 h4 => ?_, ?_⟩
              · have z : kk = 0 := by omega
                subst z
                rw [hy1 (one r h2 h3)]; exact (by decide : (0 : Nat) < 1)
              · by_cases c : s = 2 ^ f
                · refine Or.inr ⟨0, fun _ => f, ⟨fun i _ => hsub f hb, fun i j hi hj _ => by omega, fun i hi => by omega⟩, fun g => ?_, rfl, by rw [hy1 c]; rfl⟩
                  rw [c, Nat.testBit_two_pow, decide_eq_true_iff]
                  exact ⟨fun e => ⟨0, by omega, e⟩, fun ⟨_, _, e⟩ => e⟩
                · exact Or.inl (hy0 c)
            obtain ⟨m1, y', r1, r2, r3, r4, r5⟩ := m_puts82 (ml := ml) (pm := pm) (T := T) ok hv hlt hb hsub (S 0 1) 0 y (hw m 111 (7 * s + f) (enc y)) (Ml_fx k (fun c h _ => hw_oo _ _ _ h)) (by omega) (hw_c _ _ _ _) (fun s' f' h0 h1 h2 h3 => by rw [hw_k _ _ _ (by omega)]; exact tt s' f' h0 h1 h2 h3) ac0
            rw [show (0 : Int32) = nI 0 from rfl, r1]
            refine nx m1 y' (fun c hc => by rw [r2 c hc, hw_oo _ _ _ hc]) (fun x hx => by rw [r3 x hx, hw_k _ _ _ hx]) r4 ⟨fun kk r h1 h2 h3 => r5.1 kk r h1 h2 h3 ?_, r5.2⟩
            rcases Nat.eq_zero_or_pos kk with z | z
            · exact Or.inl z
            · exact Or.inr (ok.pF (h1.1 (kk - 1) (by omega)))
          by_cases c : s = 2 ^ f
          · rw [if_pos (show nI s = nI (2 ^ f) by rw [← c])]
            exact go 1 (fun _ => rfl) (fun x => absurd c x)
          · rw [if_neg (fun x => c ((eq_nI (by omega) (by omega)).mp x))]
            exact go 0 (fun x => absurd x c) (fun _ => rfl)
        · rw [if_neg (fun c => hb ((bit_1 hlt (by omega)).mp c))]
          exact not' (fun c => hb c.1)
      · rw [if_neg (fun c => hsub ((sub_0 hlt ok.pk).mp c))]
        exact not' (fun c => hsub c.2)
theorem m_puts {m : hM} (k : Ml m ml S T) (ok : Ok S) {v : Nat} (hv : v ≤ 99) : ∃ m1 : hM, f_X6_puts [.ref 99, .int (nI v)] (hG m ml pm) = some (none, hG m1 ml pm) ∧ (∀ c, c ≠ 111 → m1 c = m c) ∧ MTT S v m1 128 0 := by
  rw [e_X6_puts, e_X6_puts_2, if_neg (by decide)]
  exact m_puts11 ok hv 127 1 7 0 m k (by omega) (by omega) (by omega) (by omega) (fun s' f' h0 h1 h2 h3 => by omega)
end D1
