/-! inTime, bestSlit, rate, trace, forget -/
def itP (S : pS) (v n : Nat) : Bool := decide (0 < S 5 24 - 1) && decide (hlk S n (wk (hlk S n) (S 5 24 - 1)) < v)
/-- the place of the best slit, as a number that may be below 1 -/
def bpz (S : pS) (f t v : Nat) : Int := if v = 0 then (S 3 f : Int) - t else min ((S 3 f : Int) - t) (10 * (S 2 f : Int) - 3 * t - (S 0 2 * S 5 (3 + f) / 10 : Nat) - v)
def bp (S : pS) (f t v : Nat) : Nat := (bpz S f t v).toNat
theorem Ok.w9 {S : pS} (ok : Ok S) : S 0 2 ≤ 9 := ok.2.1.2.1
theorem hl0 {S : pS} (ok : Ok S) {f : Nat} (hf : f < S 0 1) : S 0 2 * S 5 (3 + f) / 10 ≤ 540 := by
  have F7 := ok.F7
  have h := Nat.mul_le_mul ok.w9 (ok.b (j := 3 + f) (by omega))
  omega
theorem npos {k : Nat} (h : 0 < k) (hk : k ≤ 100000) : ¬ nI k ≤ (0 : Int32) := nle (b := 0) h (by omega)
section V5
variable {mi : hM} {ml : Nat → Nat → Int64} {pm : Nat → Option Nat} {S : pS} {T : Int64}
theorem c_it (k : Cl mi ml pm S T) (ok : Ok S) {v n : Nat} (hv : v ≤ 99) (hn : n ≤ 400) : w_X5_inTime_14 (nI v) (nI n) (hG mi ml pm) = if itP S v n then some (some (.int (nI n)), hG mi ml pm) else w_X5_inTime_14 (nI v) (nI (n + 1)) (hG mi ml pm) := by
  have F7 := ok.F7
  have n7 := ok.n7
  rw [e_X5_inTime_14, lit_nI 400, if_neg (nlt (by omega) (by omega)), c_weakestLink k ok hn, bI_i, e_X5_inTime_26]
  unfold itP
  by_cases h : S 5 24 - 1 = 0
  · rw [if_pos h, if_pos rfl, decide_eq_false (by omega), nI_1]; rfl
  · have wl := wk_lt (h := hlk S n) (m := S 5 24 - 1) (by omega)
    have b2 := hlk_b ok (n := n) (j := wk (hlk S n) (S 5 24 - 1)) (by omega)
    have c := ok.ch (k := wk (hlk S n) (S 5 24 - 1)) (by omega)
    rw [if_neg h, if_neg (n9 (by omega)), if_pos (in_nI (by omega) (by omega)), cl_nI (by omega), c_ch k _ (by omega), c_holdsLater k ok c hn, bI_i, e_X5_inTime_47, decide_eq_true (show 0 < S 5 24 - 1 by omega), Bool.true_and, nI_1]
    change (if nI v ≤ nI (hlk S n (wk (hlk S n) (S 5 24 - 1))) then _ else _) = _
    by_cases q : hlk S n (wk (hlk S n) (S 5 24 - 1)) < v
    · rw [if_neg (nle q (by omega)), decide_eq_true q]; rfl
    · rw [if_pos (yle (by omega) (by omega)), decide_eq_false q]; rfl
theorem m_it (k : Ml mi ml S T) (ok : Ok S) {v n : Nat} (hv : v ≤ 99) (hn : n ≤ 400) : w_X6_inTime_19 (nI v) (nI n) (hG mi ml pm) = if itP S v n then some (some (.int (nI n)), hG mi ml pm) else w_X6_inTime_19 (nI v) (nI (n + 1)) (hG mi ml pm) := by
  have F7 := ok.F7
  have n7 := ok.n7
  have body : ∀ i, i < S 5 24 - 1 → w_X6_inTime_28 (nI v) (nI n) (nI i) (hG mi ml pm) = if hlk S n i < v then some (some (.int (nI n)), hG mi ml pm) else w_X6_inTime_28 (nI v) (nI n) (nI (i + 1)) (hG mi ml pm) := by
    intro i hi
    have c := ok.ch (k := i) (by omega)
    have o := ok.pl (f := S 5 (25 + i)) (by omega)
    have o3 := ok.b (j := 3 + S 5 (25 + i)) (by omega)
    have bh := hlk_b ok (n := n) (j := i) (by omega)
    rw [e_X6_inTime_28, m_s k 24 (by omega), if_neg (nm1_n (by omega) (by omega)), lit_nI 25, nI_add, if_pos (in_nI (by omega) (by omega)), cl_nI (by omega), m_s k _ (by omega)]
    simp (disch := omega) only [lit_nI, nI_add, in_iff, cl_nI, m_s k, m_w k, if_pos]
    rw [m_holdsBy k ok c o.1 o.2.1 (by omega) ok.w9, bI_i, e_X6_inTime_95, nI_1]
    change (if nI v ≤ nI (hlk S n i) then _ else _) = _
    by_cases q : hlk S n i < v
    · rw [if_neg (nle q (by omega)), if_pos q]
    · rw [if_pos (yle (by omega) (by omega)), if_neg q]
  rw [e_X6_inTime_19, lit_nI 400, if_neg (nlt (by omega) (by omega))]
  rcases first_or (fun i => hlk S n i < v) (S 5 24 - 1) with h | ⟨j, hj, h1, h2⟩
  · have hp : itP S v n = false := by
      unfold itP
      by_cases q : 0 < S 5 24 - 1
      · have := h _ (wk_lt (h := hlk S n) q)
        rw [decide_eq_false this, Bool.and_false]
      · rw [decide_eq_false q]; rfl
    rw [hp, if_neg (by decide)]
    refine Eq.trans (lpG (w := fun (_ : Unit) i => w_X6_inTime_28 (nI v) (nI n) i (hG mi ml pm)) (fun _ => ()) (n := S 5 24 - 1) (fun i hi => by show w_X6_inTime_28 _ _ (nI i) _ = _; rw [body i hi, if_neg (h i hi)]) 0 (by omega)) ?_
    show w_X6_inTime_28 _ _ _ _ = _
    rw [e_X6_inTime_28, m_s k 24 (by omega), if_pos (nm1_y (by omega) (by omega)), nI_1]
  · have hp : itP S v n = true := by
      unfold itP
      have := wk_min (h := hlk S n) hj
      rw [decide_eq_true (show 0 < S 5 24 - 1 by omega), decide_eq_true (by omega)]; rfl
    rw [hp, if_pos rfl]
    refine Eq.trans (lpG (w := fun (_ : Unit) i => w_X6_inTime_28 (nI v) (nI n) i (hG mi ml pm)) (fun _ => ()) (n := j) (fun i hi => by show w_X6_inTime_28 _ _ (nI i) _ = _; rw [body i (by omega), if_neg (h2 i hi)]) 0 (by omega)) ?_
    show w_X6_inTime_28 _ _ _ _ = _
    rw [body j hj, if_pos h1]
theorem c_bestPlace (k : Cl mi ml pm S T) (ok : Ok S) {f t v : Nat} (hf : f < S 0 1) (ht : t ≤ 9) (hv : v ≤ 99) : f_X5_bestPlace [.ref 7, .ref 11, .int (nI f), .int (nI t), .int (nI v)] (hG mi ml pm) = some (some (.int (zI (bpz S f t v))), hG mi ml pm) := by
  have F7 := ok.F7
  have o1 := ok.st hf
  have o2 := ok.th hf
  have hl := hl0 ok hf
  have hd := ok.b (j := 3 + f) (by omega)
  have hwd : S 0 2 * S 5 (3 + f) ≤ 5400 := Nat.mul_le_mul ok.w9 hd
  rw [e_X5_bestPlace, if_pos (in_nI (by omega) (by omega)), if_pos (in_nI (by omega) (by omega)), if_pos (in_nI (by omega) (by omega)), cl_nI (by omega), c_st k _ hf, c_th k _ hf, c_w k, c_dr k _ (by omega)]
  unfold bpz
  by_cases h : v = 0
  · rw [if_pos h, if_pos (by rw [h]; rfl), nI_z, nI_z, z_sub]
  · rw [if_neg h, if_neg (nz h (by omega))]
    have e : ((((10 * nI (S 2 f)) - (3 * nI t)) - ((nI (S 0 2) * nI (S 5 (3 + f))) / 10)) - nI v) = zI (10 * (S 2 f : Int) - 3 * t - (S 0 2 * S 5 (3 + f) / 10 : Nat) - v) := by
      rw [lit_nI 10, lit_nI 3, pk_mul, pk_mul, pk_mul, pk_div (by omega) (by omega) (by omega), nI_z, nI_z, nI_z, nI_z, z_sub, z_sub, z_sub]; congr 1
    have e2 : nI (S 3 f) - nI t = zI ((S 3 f : Int) - t) := by rw [nI_z, nI_z, z_sub]
    rw [e, e2]
    generalize S 0 2 * S 5 (3 + f) / 10 = q at hl ⊢
    by_cases c : zI (10 * (S 2 f : Int) - 3 * t - (q : Nat) - v) < zI ((S 3 f : Int) - t)
    · rw [if_pos c]
      have := (z_lt (by omega) (by omega) (by omega) (by omega)).mp c
      congr 5
      omega
    · rw [if_neg c]
      have : ¬ _ := fun h => c ((z_lt (by omega) (by omega) (by omega) (by omega)).mpr h)
      congr 5
      omega
theorem bp_iff {f t v at' : Nat} (h1 : 1 ≤ at') (h2 : at' + t ≤ S 3 f) : v ≤ hol (S 2 f) (S 3 f) (S 0 2) at' t (S 5 (3 + f)) ↔ (at' : Int) ≤ bpz S f t v := by
  unfold hol bpz
  generalize S 0 2 * S 5 (3 + f) / 10 = q
  rw [if_neg (by omega)]
  split <;> omega
theorem bp_le {f t v : Nat} : bp S f t v ≤ S 3 f - t := by
  unfold bp bpz
  generalize S 0 2 * S 5 (3 + f) / 10 = q
  split <;> omega
theorem m_bestPlace (k : Ml mi ml S T) (ok : Ok S) {f t v : Nat} (hf : f < S 0 1) (ht : t ≤ 9) (hv : v ≤ 99) : f_X6_bestPlace [.ref 99, .int (nI f), .int (nI t), .int (nI v)] (hG mi ml pm) = some (some (.int (if bp S f t v = 0 then -9 else nI (bp S f t v))), hG mi ml pm) := by
  have F7 := ok.F7
  have o1 := ok.st hf
  have o2 := ok.th hf
  have hd := ok.b (j := 3 + f) (by omega)
  have key : ∀ i, i + t ≤ S 3 f → bp S f t v ≤ i → w_X6_bestPlace_10 (nI f) (nI t) (nI v) (nI i) (hG mi ml pm) = some (some (.int (if bp S f t v = 0 then -9 else nI (bp S f t v))), hG mi ml pm) := by
    intro i
    induction i with
    | zero =>
      intro _ hb
      rw [e_X6_bestPlace_10, if_pos (by decide), if_pos (by omega)]
    | succ i ih =>
      intro h1 h2
      have hh := hol_le (S 2 f) (S 3 f) (S 0 2) (i + 1) t (S 5 (3 + f))
      rw [e_X6_bestPlace_10, if_neg (npos (k := i + 1) (by omega) (by omega)), lit_nI 3, nI_add, if_pos (in_nI (by omega) (by omega)), cl_nI (by omega), m_s k _ (by omega), m_w k, m_holdsBy k ok hf (by omega) ht (by omega) ok.w9, bI_i, e_X6_bestPlace_37, nm_a, nm_s]
      have bi := bp_iff (S := S) (f := f) (t := t) (v := v) (at' := i + 1) (by omega) (by omega)
      by_cases q : hol (S 2 f) (S 3 f) (S 0 2) (i + 1) t (S 5 (3 + f)) < v
      · rw [if_pos (ylt q (by omega))]
        apply ih (by omega)
        have : ¬ (((i + 1 : Nat) : Int) ≤ bpz S f t v) := fun c => by have := bi.mpr c; omega
        unfold bp at h2 ⊢
        omega
      · have : (((i + 1 : Nat) : Int) ≤ bpz S f t v) := bi.mp (by omega)
        have e : bp S f t v = i + 1 := by unfold bp at h2 ⊢; omega
        rw [if_neg (nlt (by omega) (by omega)), e, if_neg (by omega)]
  rw [e_X6_bestPlace, if_pos (in_nI (by omega) (by omega)), cl_nI (by omega), m_st k _ hf]
  have hb := bp_le (S := S) (f := f) (t := t) (v := v)
  by_cases q : t ≤ S 3 f
  · rw [pk_sub q]
    exact key _ (by omega) hb
  · have e : nI (S 3 f) - nI t = zI ((S 3 f : Int) - t) := by rw [nI_z, nI_z, z_sub]
    have c : zI ((S 3 f : Int) - t) ≤ (0 : Int32) := show _ ≤ zI 0 from (z_le (by omega) (by omega) (by omega) (by omega)).mpr (by omega)
    rw [e, e_X6_bestPlace_10, if_pos c, if_pos (by omega)]
end V5
theorem b_inTime {S : pS} (ok : Ok S) (T : Int64) (a : Int32) : ∃ v S' T', Both (f_X5_inTime [.ref 0, .int a]) (f_X6_inTime [.ref 99, .int a]) S T v S' T' := by
  by_cases h : wi3 a 1 99 = 0
  · refine ⟨-1, S, T, Both_q ok (fun mi ml pm k => ?_) (fun mi ml pm k => ?_)⟩
    · rw [e_X5_inTime, x5_isWithin, bI_i, e_X5_inTime_7, if_pos h]
    · rw [e_X6_inTime, x6_in, bI_i, e_X6_inTime_12, if_pos h]
  · obtain ⟨v, -, hv, rfl⟩ := nat_of (b := 1) (n := 99) (by omega) h (by omega)
    rcases first_or (fun n => itP S v n = true) 401 with q | ⟨j, hj, q1, q2⟩
    · refine ⟨-9, S, T, Both_q ok (fun mi ml pm k => ?_) (fun mi ml pm k => ?_)⟩
      · rw [e_X5_inTime, x5_isWithin, bI_i, e_X5_inTime_7, if_neg h]
        refine Eq.trans (lpG (w := fun (_ : Unit) i => w_X5_inTime_14 (nI v) i (hG mi ml pm)) (fun _ => ()) (n := 401) (fun i hi => by show w_X5_inTime_14 _ (nI i) _ = _; rw [c_it k ok hv (by omega), if_neg (q i hi)]) 0 (by omega)) ?_
        show w_X5_inTime_14 _ _ _ = _
        rw [e_X5_inTime_14, if_pos (by decide)]
      · have k' := Ml_th (0 : Int32) k
        rw [e_X6_inTime, x6_in, bI_i, e_X6_inTime_12, if_neg h]
        generalize hw mi 99 0 0 = m at k' ⊢
        refine Eq.trans (lpG (w := fun (_ : Unit) i => w_X6_inTime_19 (nI v) i (hG m ml pm)) (fun _ => ()) (n := 401) (fun i hi => by show w_X6_inTime_19 _ (nI i) _ = _; rw [m_it k' ok hv (by omega), if_neg (q i hi)]) 0 (by omega)) ?_
        show w_X6_inTime_19 _ _ _ = _
        rw [e_X6_inTime_19, if_pos (by decide)]
    · refine ⟨nI j, S, T, Both_q ok (fun mi ml pm k => ?_) (fun mi ml pm k => ?_)⟩
      · rw [e_X5_inTime, x5_isWithin, bI_i, e_X5_inTime_7, if_neg h]
        refine Eq.trans (lpG (w := fun (_ : Unit) i => w_X5_inTime_14 (nI v) i (hG mi ml pm)) (fun _ => ()) (n := j) (fun i hi => by show w_X5_inTime_14 _ (nI i) _ = _; rw [c_it k ok hv (by omega), if_neg (q2 i hi)]) 0 (by omega)) ?_
        show w_X5_inTime_14 _ _ _ = _
        rw [c_it k ok hv (by omega), if_pos q1]
      · have k' := Ml_th (0 : Int32) k
        rw [e_X6_inTime, x6_in, bI_i, e_X6_inTime_12, if_neg h]
        generalize hw mi 99 0 0 = m at k' ⊢
        refine Eq.trans (lpG (w := fun (_ : Unit) i => w_X6_inTime_19 (nI v) i (hG m ml pm)) (fun _ => ()) (n := j) (fun i hi => by show w_X6_inTime_19 _ (nI i) _ = _; rw [m_it k' ok hv (by omega), if_neg (q2 i hi)]) 0 (by omega)) ?_
        show w_X6_inTime_19 _ _ _ = _
        rw [m_it k' ok hv (by omega), if_pos q1]
theorem b_bestSlit {S : pS} (ok : Ok S) (T : Int64) (a b c : Int32) : ∃ v S' T', Both (f_X5_bestSlit [.ref 0, .int a, .int b, .int c]) (f_X6_bestSlit [.ref 99, .int a, .int b, .int c]) S T v S' T' := by
  have F7 := ok.F7
  by_cases h : wi3 a 0 (nI (S 0 1) - 1) = 0
  · refine ⟨-1, S, T, Both_q ok (fun mi ml pm k => ?_) (fun mi ml pm k => ?_)⟩
    · rw [e_X5_bestSlit, c_isFlower k, bI_i, e_X5_bestSlit_5, if_pos h]
    · rw [e_X6_bestSlit, m_isFlower (Ml_th (0 : Int32) k), bI_i, e_X6_bestSlit_10, if_pos h]
  by_cases h2 : wi3 b 1 9 = 0
  · refine ⟨-1, S, T, Both_q ok (fun mi ml pm k => ?_) (fun mi ml pm k => ?_)⟩
    · rw [e_X5_bestSlit, c_isFlower k, bI_i, e_X5_bestSlit_5, if_neg h, x5_isWithin, bI_i, e_X5_bestSlit_15, if_pos h2]
    · rw [e_X6_bestSlit, m_isFlower (Ml_th (0 : Int32) k), bI_i, e_X6_bestSlit_10, if_neg h, x6_in, bI_i, e_X6_bestSlit_20, if_pos h2]
  by_cases h3 : wi3 c 0 99 = 0
  · refine ⟨-1, S, T, Both_q ok (fun mi ml pm k => ?_) (fun mi ml pm k => ?_)⟩
    · rw [e_X5_bestSlit, c_isFlower k, bI_i, e_X5_bestSlit_5, if_neg h, x5_isWithin, bI_i, e_X5_bestSlit_15, if_neg h2, x5_isHold, bI_i, e_X5_bestSlit_22, if_pos h3]
    · rw [e_X6_bestSlit, m_isFlower (Ml_th (0 : Int32) k), bI_i, e_X6_bestSlit_10, if_neg h, x6_in, bI_i, e_X6_bestSlit_20, if_neg h2, x6_in, bI_i, e_X6_bestSlit_30, if_pos h3]
  obtain ⟨f, hf, rfl⟩ := fl_of (by omega) h
  obtain ⟨t, ht1, ht, rfl⟩ := nat_of (b := 1) (n := 9) (by omega) h2 (by omega)
  obtain ⟨v, -, hv, rfl⟩ := nat_of (b := 0) (n := 99) (by omega) h3 (by omega)
  refine ⟨if (S 5 2).testBit f then (if bp S f t v = 0 then -9 else nI (bp S f t v)) else -2, S, T, Both_q ok (fun mi ml pm k => ?_) (fun mi ml pm k => ?_)⟩
  · rw [e_X5_bestSlit, c_isFlower k, bI_i, e_X5_bestSlit_5, if_neg h, x5_isWithin, bI_i, e_X5_bestSlit_15, if_neg h2, x5_isHold, bI_i, e_X5_bestSlit_22, if_neg h3, c_isPicked k ok (by omega), bI_i, e_X5_bestSlit_35]
    cases (S 5 2).testBit f with
    | false => rfl
    | true =>
      rw [if_neg (by decide), if_pos rfl, c_bestPlace k ok hf ht hv, bI_i, e_X5_bestSlit_55]
      have o1 := ok.st hf
      have o2 := ok.th hf
      have hl := hl0 ok hf
      have b1 : -1000 ≤ bpz S f t v ∧ bpz S f t v ≤ 1000 := by
        unfold bpz
        generalize S 0 2 * S 5 (3 + f) / 10 = q at hl ⊢
        split <;> omega
      by_cases q : bp S f t v = 0
      · have c : zI (bpz S f t v) ≤ (0 : Int32) := show _ ≤ zI 0 from (z_le (by omega) (by omega) (by omega) (by omega)).mpr (by unfold bp at q; omega)
        rw [if_pos c, if_pos q]
      · have c : ¬ zI (bpz S f t v) ≤ (0 : Int32) := fun (c : zI (bpz S f t v) ≤ zI 0) => q (by have := (z_le (by omega) (by omega) (by omega) (by omega)).mp c; unfold bp; omega)
        have e : zI (bpz S f t v) = nI (bp S f t v) := z_nat (by unfold bp at q ⊢; omega)
        rw [if_neg c, if_neg q, e]
  · have k' := Ml_th (0 : Int32) k
    rw [e_X6_bestSlit, m_isFlower k', bI_i, e_X6_bestSlit_10, if_neg h, x6_in, bI_i, e_X6_bestSlit_20, if_neg h2, x6_in, bI_i, e_X6_bestSlit_30, if_neg h3, m_isPicked k' ok (by omega), bI_i, e_X6_bestSlit_40]
    cases (S 5 2).testBit f with
    | false => rfl
    | true => rw [if_neg (by decide), if_pos rfl, m_bestPlace k' ok hf ht hv, bI_i, e_X6_bestSlit_50]
