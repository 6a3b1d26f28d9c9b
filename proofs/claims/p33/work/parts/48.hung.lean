/-! hung, inTime, ring, loves, bestSlit -/
def hres (p : Nat → Bool) : Nat → Int32 → Int32
  | 0, a => a
  | k + 1, a => hres p k (if p k then nI k else a)
theorem hres_n {p : Nat → Bool} {n : Nat} (a : Int32) (h : ∀ k, k < n → ¬ p k = true) : hres p n a = a := by
  induction n generalizing a with
  | zero => rfl
  | succ n ih =>
    show hres p n (if p n then nI n else a) = a
    rw [if_neg (h n (by omega)), ih _ (fun k hk => h k (by omega))]
theorem hres_f {p : Nat → Bool} {n j : Nat} (a : Int32) (hj : j < n) (h1 : p j = true) (h2 : ∀ k, k < j → ¬ p k = true) : hres p n a = nI j := by
  induction n generalizing a with
  | zero => omega
  | succ n ih =>
    show hres p n (if p n then nI n else a) = nI j
    by_cases e : j = n
    · subst e; rw [if_pos h1, hres_n _ h2]
    · exact ih _ (by omega)
def hfl (S : pS) (k : Nat) : Bool := decide (k < S 5 24 - 1) && decide (hlk S 0 k < lod (tch S) 1 (S 5 24 - 1 - k) (k + 1))
theorem nm_s (k : Nat) : nI (k + 1) - 1 = nI k := by
  rw [show nI (k + 1) - (1 : Int32) = nI (k + 1) - nI 1 from rfl, pk_sub (by omega), Nat.add_sub_cancel]
theorem nm_a (k : Nat) : nI k + (-1 : Int32) = nI k - 1 := by
  rw [Int32.sub_eq_add_neg]
theorem nm_0 : (nI 0 - 1 : Int32) < 0 := by decide
theorem nn0 (k : Nat) (h : k ≤ 100000) : ¬ nI k < (0 : Int32) := nlt (b := 0) (by omega) (by omega)
section V4
variable {mi : hM} {ml : Nat → Nat → Int64} {pm : Nat → Option Nat} {S : pS} {T : Int64}
theorem c_hung (k : Cl mi ml pm S T) (ok : Ok S) : f_X5_hung [.ref 0] (hG mi ml pm) = some (some (.int (hres (hfl S) (S 5 24) (-9))), hG mi ml pm) := by
  have F7 := ok.F7
  have n7 := ok.n7
  have key : ∀ i a b, i ≤ S 5 24 → (i = 0 ∨ b = nI (lod (tch S) 1 (S 5 24 - i) i)) → w_X5_hung_15 a b (nI i - 1) (hG mi ml pm) = some (some (.int (hres (hfl S) i a)), hG mi ml pm) := by
    intro i
    induction i with
    | zero => intro a b _ _; rw [e_X5_hung_15, if_pos nm_0]; rfl
    | succ i ih =>
      intro a b hi hb
      rcases hb with hb | rfl
      · omega
      rw [nm_s]
      have c := ok.ch (k := i) (by omega)
      have e53 : ∀ a b, b = nI (lod (tch S) 1 (S 5 24 - (i + 1)) (i + 1)) → w_X5_hung_53 a b (nI i) (nI (S 5 (25 + i))) (hG mi ml pm) = some (some (.int (hres (hfl S) i a)), hG mi ml pm) := by
        rintro a b rfl
        rw [e_X5_hung_53, if_pos (in_nI (by omega) (by omega)), cl_nI (by omega), c_th k _ c, nm_a, nI_add]
        apply ih
        · omega
        · rcases Nat.eq_zero_or_pos i with q | q
          · exact Or.inl q
          · refine Or.inr ?_
            have hb : Nat.testBit 1 i = false := by
              rcases (show i = 1 ∨ i = 2 ∨ i = 3 ∨ i = 4 ∨ i = 5 ∨ i = 6 by omega) with rfl | rfl | rfl | rfl | rfl | rfl <;> decide
            rw [show S 5 24 - i = (S 5 24 - (i + 1)) + 1 by omega]
            show _ = nI (if Nat.testBit 1 i then 0 else tch S i + lod (tch S) 1 (S 5 24 - (i + 1)) (i + 1))
            rw [hb, Nat.add_comm]; rfl
      have bl := lod_b (t := tch S) (p := 1) (S 5 24 - (i + 1)) (i + 1) (fun j hj => ok.tch (by omega))
      have bh := hlk_b ok (n := 0) (j := i) (by omega)
      rw [e_X5_hung_15, if_neg (nn0 i (by omega)), if_pos (in_nI (by omega) (by omega)), cl_nI (by omega), c_ch k i (by omega), c_lc k ok, bI_i, e_X5_hung_38]
      show _ = some (some (Value.int (hres (hfl S) i (if hfl S i then nI i else a))), _)
      by_cases q : i < S 5 24 - 1
      · rw [if_neg (nle q (by omega)), c_hlk k ok (by omega), bI_i, e_X5_hung_47]
        unfold hfl at e53 ⊢
        rw [decide_eq_true q, Bool.true_and, show S 5 24 - 1 - i = S 5 24 - (i + 1) by omega]
        by_cases q2 : hlk S 0 i < lod (tch S) 1 (S 5 24 - (i + 1)) (i + 1)
        · rw [if_neg (nle q2 (by omega)), decide_eq_true q2, e53 _ _ rfl]; rfl
        · rw [if_pos (yle (by omega) (by omega)), decide_eq_false q2, e53 _ _ rfl]; rfl
      · rw [if_pos (yle (by omega) (by omega)), e53 _ _ rfl]
        have : hfl S i = false := by unfold hfl; rw [decide_eq_false q]; rfl
        rw [this]; rfl
  rw [e_X5_hung, c_n k, show (0 : Int32) = nI (lod (tch S) 1 (S 5 24 - S 5 24) (S 5 24)) from by rw [Nat.sub_self]; rfl]
  exact key _ _ _ (Nat.le_refl _) (Or.inr rfl)
theorem m_hung (k : Ml mi ml S T) (ok : Ok S) : w_X6_hung_7 0 (hG mi ml pm) = some (some (.int (hres (hfl S) (S 5 24) (-9))), hG mi ml pm) := by
  have F7 := ok.F7
  have n7 := ok.n7
  have body : ∀ i, i < S 5 24 - 1 → w_X6_hung_7 (nI i) (hG mi ml pm) = if hfl S i then some (some (.int (nI i)), hG mi ml pm) else w_X6_hung_7 (nI (i + 1)) (hG mi ml pm) := by
    intro i hi
    have bl := lod_b (t := tch S) (p := 1) (S 5 24 - 1 - i) (i + 1) (fun j hj => ok.tch (by omega))
    have bh := hlk_b ok (n := 0) (j := i) (by omega)
    have m1 := m_load (pm := pm) k ok (p := 1) (j := i) (by omega) (by omega)
    rw [show nI 1 = (1 : Int32) from rfl] at m1
    rw [e_X6_hung_7, m_s k 24 (by omega), if_neg (nm1_n (by omega) (by omega)), lit_nI 25, nI_add, if_pos (in_nI (by omega) (by omega)), cl_nI (by omega), m_s k _ (by omega), m_hlk k ok (by omega), bI_i, e_X6_hung_33, m1, bI_i, e_X6_hung_39, nI_1]
    unfold hfl
    rw [decide_eq_true hi, Bool.true_and]
    by_cases q2 : hlk S 0 i < lod (tch S) 1 (S 5 24 - 1 - i) (i + 1)
    · rw [if_neg (nle q2 (by omega)), decide_eq_true q2]; rfl
    · rw [if_pos (yle (by omega) (by omega)), decide_eq_false q2]; rfl
  have out : ∀ i, ¬ i < S 5 24 - 1 → hfl S i = false := by intro i hi; unfold hfl; rw [decide_eq_false hi]; rfl
  rcases first_or (fun i => hfl S i = true) (S 5 24 - 1) with h | ⟨j, hj, h1, h2⟩
  · rw [hres_n]
    · refine Eq.trans (lpG (w := fun (_ : Unit) i => w_X6_hung_7 i (hG mi ml pm)) (fun _ => ()) (n := S 5 24 - 1) (fun i hi => by show w_X6_hung_7 (nI i) _ = _; rw [body i hi, if_neg (h i hi)]) 0 (by omega)) ?_
      show w_X6_hung_7 _ _ = _
      rw [e_X6_hung_7, m_s k 24 (by omega), if_pos (nm1_y (by omega) (by omega))]
    · intro i hi
      by_cases q : i < S 5 24 - 1
      · exact h i q
      · rw [out i q]; decide
  · rw [hres_f _ (by omega) h1 h2]
    refine Eq.trans (lpG (w := fun (_ : Unit) i => w_X6_hung_7 i (hG mi ml pm)) (fun _ => ()) (n := j) (fun i hi => by show w_X6_hung_7 (nI i) _ = _; rw [body i (by omega), if_neg (h2 i hi)]) 0 (by omega)) ?_
    show w_X6_hung_7 _ _ = _
    rw [body j hj, if_pos h1]
end V4
theorem b_hung {S : pS} (ok : Ok S) (T : Int64) : ∃ v S' T', Both (f_X5_hung [.ref 0]) (f_X6_hung [.ref 99]) S T v S' T' :=
  ⟨_, S, T, Both_q ok (fun _ _ _ k => c_hung k ok) (fun _ _ _ k => by rw [e_X6_hung]; exact m_hung (Ml_th (0 : Int32) k) ok)⟩
theorem b_loves {S : pS} (ok : Ok S) (T : Int64) : ∃ v S' T', Both (f_X5_loves [.ref 0]) (f_X6_loves [.ref 99]) S T v S' T' := by
  have F7 := ok.F7
  have n7 := ok.n7
  refine ⟨nI (sumN (fun k => S 4 (S 5 (25 + k))) (S 5 24)) - nI (sumN (fun k => S 4 (S 5 (25 + k))) (S 5 24)) / 2 * 2, S, T, Both_q ok (fun mi ml pm k => ?_) (fun mi ml pm k => ?_)⟩
  · rw [e_X5_loves]
    refine Eq.trans (lpG (w := fun x i => w_X5_loves_4 x i (hG mi ml pm)) (fun i => nI (sumN (fun k => S 4 (S 5 (25 + k))) i)) (n := S 5 24) ?_ 0 (by omega)) ?_
    · intro i hi
      show w_X5_loves_4 _ (nI i) _ = w_X5_loves_4 _ (nI (i + 1)) _
      have := ok.ch (k := i) (by omega)
      rw [e_X5_loves_4]
      simp (disch := omega) only [lit_nI, c_n k, le_nI, in_iff, cl_nI, c_ch k, c_pe k, nI_add, if_pos, if_neg]
      rfl
    · show w_X5_loves_4 _ _ _ = _
      rw [e_X5_loves_4, c_n k, if_pos (Int32.le_refl _)]
  · have k' := Ml_th (0 : Int32) k
    rw [e_X6_loves]
    generalize hw mi 99 0 0 = m at k' ⊢
    refine Eq.trans (lpG (w := fun x i => w_X6_loves_9 x i (hG m ml pm)) (fun i => nI (sumN (fun k => S 4 (S 5 (25 + k))) i)) (n := S 5 24) ?_ 0 (by omega)) ?_
    · intro i hi
      show w_X6_loves_9 _ (nI i) _ = w_X6_loves_9 _ (nI (i + 1)) _
      have := ok.ch (k := i) (by omega)
      rw [e_X6_loves_9]
      simp (disch := omega) only [lit_nI, le_nI, in_iff, cl_nI, m_s k', m_pe k', nI_add, if_pos, if_neg]
      rfl
    · show w_X6_loves_9 _ _ _ = _
      rw [e_X6_loves_9, m_s k' 24 (by omega), if_pos (Int32.le_refl _)]
theorem b_ring {S : pS} (ok : Ok S) (T : Int64) : ∃ v S' T', Both (f_X5_ring [.ref 0]) (f_X6_ring [.ref 99]) S T v S' T' := by
  have F7 := ok.F7
  have n7 := ok.n7
  by_cases h : 2 ≤ S 5 24
  · have h0 := ok.ch (k := 0) (by omega)
    have hl := ok.ch (k := S 5 24 - 1) (by omega)
    refine ⟨b01 (tak S (S 5 (25 + (S 5 24 - 1))) (S 5 25)), S, T, Both_q ok (fun mi ml pm k => ?_) (fun mi ml pm k => ?_)⟩
    · rw [e_X5_ring, c_n k, lit_nI 2, if_pos (yle h (by omega)), c_last k ok (by omega), bI_i, e_X5_ring_21, c_ch k 0 (by omega), c_takes k ok hl h0, bI_i, e_X5_ring_33]
      show _ = some (some (Value.int (b01 (tak S (S 5 (25 + (S 5 24 - 1))) (S 5 (25 + 0))))), _)
      cases tak S (S 5 (25 + (S 5 24 - 1))) (S 5 (25 + 0)) <;> rfl
    · have k' := Ml_th (0 : Int32) k
      have e : (25 : Int32) + nI (S 5 24) - 1 = nI (25 + (S 5 24 - 1)) := by
        rw [lit_nI 25, lit_nI 1, nI_add, pk_sub (by omega)]; congr 1; omega
      have o := ok.pl (f := S 5 (25 + (S 5 24 - 1))) (by omega)
      have o2 := ok.th h0
      rw [e_X6_ring, m_s k 24 (by omega), lit_nI 2, if_pos (yle h (by omega)), e, if_pos (in_nI (by omega) (by omega)), cl_nI (by omega), m_s k _ (by omega)]
      generalize hw mi 99 0 0 = m at k' ⊢
      rw [m_isSlit k' ok (by omega), bI_i, e_X6_ring_41]
      unfold tak
      cases slt S (S 5 (25 + (S 5 24 - 1))) with
      | false => rfl
      | true =>
        rw [if_neg (by decide), m_opn k' ok hl, bI_i, e_X6_ring_49]
        cases opn S (S 5 (25 + (S 5 24 - 1))) with
        | true => rfl
        | false =>
          rw [if_pos (by decide), m_s k' 25 (by omega)]
          have h0' : S 5 25 < S 0 1 := h0
          have o2' : S 2 (S 5 25) ≤ 9 := o2.2
          simp (disch := omega) only [lit_nI, in_iff, nI_add, cl_nI, m_s k', m_th k', lt_nI, if_pos]
          by_cases q : S 5 (17 + S 5 (25 + (S 5 24 - 1))) < S 2 (S 5 25)
          · rw [if_pos q, decide_eq_false (by omega)]; rfl
          · rw [if_neg q, decide_eq_true (by omega)]; rfl
  · refine ⟨0, S, T, Both_q ok (fun mi ml pm k => ?_) (fun mi ml pm k => ?_)⟩
    · rw [e_X5_ring, c_n k, lit_nI 2, if_neg (nle (by omega) (by omega))]
    · rw [e_X6_ring, m_s k 24 (by omega), lit_nI 2, if_neg (nle (by omega) (by omega))]
