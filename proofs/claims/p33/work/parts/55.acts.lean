/-! picks, slits, threads, pulls, minutes, water: both sides -/
theorem Both_d {f5 f6 : hp_G → Option sx_R} {S : pS} {T : Int64} {v : Int32} {d : Nat → Nat} (ok : Ok S) (hd : Okm (S 0 1) (S 3) d)
    (h5 : ∀ (mi : hM) ml pm, Cl mi ml pm S T → ∃ w5 : hp_G → Option sx_R, f5 (hG mi ml pm) = bV (f_X5_remember [.ref 0] (hG mi ml pm)) w5 ∧ ∀ (m : hM) p, Cl m ml p (remS S) T → ∃ m1 : hM, w5 (hG m ml p) = some (some (.int v), hG m1 ml p) ∧ (∀ c, c < 11 ∨ 15 < c → m1 c = m c) ∧ Cm m1 11 d)
    (h6 : ∀ (mi : hM) ml pm, Ml mi ml S T → ∃ w6 : hp_G → Option sx_R, f6 (hG mi ml pm) = bV (f_X6_notes [.ref 99] (hG (hw mi 99 0 0) ml pm)) w6 ∧ ∀ (m : hM), Ml m ml (remS S) T → ∃ m1 : hM, w6 (hG m ml pm) = some (some (.int v), hG m1 ml pm) ∧ (∀ c, c ≠ 105 → m1 c = m c) ∧ Mm m1 105 0 d) :
    Both f5 f6 S T v (doS S d) T := by
  refine ⟨fun mi ml pm k => ?_, fun mi ml pm k => ?_, Ok_do ok hd⟩
  · obtain ⟨w5, e, h⟩ := h5 mi ml pm k
    obtain ⟨m, p, e1, k1, f1⟩ := c_rem k ok
    obtain ⟨m1, e2, f2, cd⟩ := h m p k1
    rw [e, e1, bV_v, e2]
    exact ⟨m1, ml, p, rfl, Cl_N k1 f2 cd, fun c hc => by rw [f2 c (by omega), f1 c hc], rfl⟩
  · obtain ⟨w6, e, h⟩ := h6 mi ml pm k
    obtain ⟨m, e1, k1, f1⟩ := m_notes (Ml_th (0 : Int32) k) ok pm
    obtain ⟨m1, e2, f2, cd⟩ := h m k1
    rw [e, e1, bV_v, e2]
    exact ⟨m1, ml, rfl, Ml_N k1 (fun c h1 h2 => f2 c h2) cd, fun c hc => by rw [f2 c (by omega), f1 c hc, ml0 mi 0 c hc], rfl⟩
section W3
variable {mi : hM} {ml : Nat → Nat → Int64} {pm : Nat → Option Nat} {S : pS} {T : Int64}
theorem c_N5 (k : Cl mi ml pm (remS S) T) : Cm mi 11 (S 5) := by have := k.2.2.1; rwa [rem5] at this
theorem m_N5 (k : Ml mi ml (remS S) T) : Mm mi 105 0 (S 5) := by have := k.2.2.1; rwa [rem5] at this
theorem m_isLink (k : Ml mi ml S T) (ok : Ok S) {f : Nat} (hf : f < 7) : f_X6_isLink [.ref 99, .int (nI f)] (hG mi ml pm) = some (some (.int (b01 (amg S f (S 5 24 - 1)))), hG mi ml pm) := by
  have F7 := ok.F7
  have n7 := ok.n7
  rw [e_X6_isLink]
  refine Eq.trans (lpG (w := fun x i => w_X6_isLink_4 (nI f) x i (hG mi ml pm)) (fun i => b01 (amg S f i)) (n := S 5 24 - 1) ?_ 0 (by omega)) ?_
  · intro i hi
    show w_X6_isLink_4 _ _ (nI i) _ = w_X6_isLink_4 _ (b01 (amg S f i || decide (S 5 (25 + i) = f))) (nI (i + 1)) _
    have c := ok.ch (k := i) (by omega)
    rw [e_X6_isLink_4, m_s k 24 (by omega), if_neg (nm1_n (by omega) (by omega)), nI_1]
    cases amg S f i with
    | true => rw [if_neg (by decide)]; rfl
    | false =>
      rw [if_pos (by decide), lit_nI 25, nI_add, if_pos (in_nI (by omega) (by omega)), cl_nI (by omega), m_s k _ (by omega)]
      by_cases q : S 5 (25 + i) = f
      · rw [if_pos (by rw [q]), decide_eq_true q]; rfl
      · rw [if_neg (fun c => q ((eq_nI (by omega) (by omega)).mp c)), decide_eq_false q]; rfl
  · show w_X6_isLink_4 _ _ _ _ = _
    rw [e_X6_isLink_4, m_s k 24 (by omega), if_pos (nm1_y (by omega) (by omega)), if_pos (b01_01 _)]
end W3
theorem b_picks {S : pS} (ok : Ok S) (T : Int64) (a : Int32) : ∃ v S' T', Both (f_X5_picks [.ref 0, .int a]) (f_X6_picks [.ref 99, .int a]) S T v S' T' := by
  have F7 := ok.F7
  by_cases h : wi3 a 0 (nI (S 0 1) - 1) = 0
  · refine ⟨-1, S, T, Both_q ok (fun mi ml pm k => ?_) (fun mi ml pm k => ?_)⟩
    · rw [e_X5_picks, c_isFlower k, bI_i, e_X5_picks_5, if_pos h]
    · rw [e_X6_picks, m_isFlower (Ml_th (0 : Int32) k), bI_i, e_X6_picks_10, if_pos h]
  obtain ⟨f, hf, rfl⟩ := fl_of (by omega) h
  cases hp : (S 5 2).testBit f with
  | true =>
    refine ⟨-2, S, T, Both_q ok (fun mi ml pm k => ?_) (fun mi ml pm k => ?_)⟩
    · rw [e_X5_picks, c_isFlower k, bI_i, e_X5_picks_5, if_neg h, c_isPicked k ok (by omega), hp, bI_i, e_X5_picks_18, if_neg (by decide)]
    · have k' := Ml_th (0 : Int32) k
      rw [e_X6_picks, m_isFlower k', bI_i, e_X6_picks_10, if_neg h, m_isPicked k' ok (by omega), hp, bI_i, e_X6_picks_20, if_neg (by decide)]
  | false =>
    have pk := ok.pk
    have pb := or_b pk (show f < 7 by omega)
    refine ⟨nI (pc (S 5 2 ||| 2 ^ f)), _, T, Both_d ok (Okm_pick ok.2.2.1 F7 hf) (fun mi ml pm k => ⟨fun g => w_X5_picks_28 (nI f) g, ?_, fun m p km => ?_⟩) (fun mi ml pm k => ⟨fun g => w_X6_picks_30 (nI f) g, ?_, fun m km => ?_⟩)⟩
    · rw [e_X5_picks, c_isFlower k, bI_i, e_X5_picks_5, if_neg h, c_isPicked k ok (by omega), hp, bI_i, e_X5_picks_18, if_pos (by decide)]
    · show ∃ m1, w_X5_picks_28 (nI f) (hG m ml p) = _ ∧ _
      have c5 := c_N5 km
      rw [e_X5_picks_28, if_pos (in_nI (by omega) (by omega)), cl_nI (by omega), c5.1.2.2.1, or_t _ pk f (by omega), bitCount pb, bI_i, e_X5_picks_63]
      exact ⟨_, rfl, fun c hc => by rw [hw_oo _ _ _ (by omega), hw_oo _ _ _ (by omega)], Cm_row (r := 0) (v := 0) (Cm_num c5 (by omega)) (by omega) (by omega)⟩
    · have k' := Ml_th (0 : Int32) k
      rw [e_X6_picks, m_isFlower k', bI_i, e_X6_picks_10, if_neg h, m_isPicked k' ok (by omega), hp, bI_i, e_X6_picks_20, if_pos (by decide)]
    · show ∃ m1, w_X6_picks_30 (nI f) (hG m ml pm) = _ ∧ _
      have c5 := m_N5 km
      have e2 : m 105 2 = nI (S 5 2) := c5 2 (by omega)
      rw [e_X6_picks_30, lit_nI 3, nI_add, if_pos (in_nI (by omega) (by omega)), cl_nI (by omega), e2, or_t _ pk f (by omega), hw_k _ _ _ (by omega), hw_c, ones pb, bI_i, e_X6_picks_60]
      exact ⟨_, rfl, fun c hc => by rw [hw_oo _ _ _ hc, hw_oo _ _ _ hc], Mm_set (v := 0) (Mm_set c5)⟩
theorem b_slits {S : pS} (ok : Ok S) (T : Int64) (a b c : Int32) : ∃ v S' T', Both (f_X5_slits [.ref 0, .int a, .int b, .int c]) (f_X6_slits [.ref 99, .int a, .int b, .int c]) S T v S' T' := by
  have F7 := ok.F7
  have n7 := ok.n7
  by_cases h : wi3 a 0 (nI (S 0 1) - 1) = 0
  · refine ⟨-1, S, T, Both_q ok (fun mi ml pm k => ?_) (fun mi ml pm k => ?_)⟩
    · rw [e_X5_slits, c_isFlower k, bI_i, e_X5_slits_5, if_pos h]
    · rw [e_X6_slits, m_isFlower (Ml_th (0 : Int32) k), bI_i, e_X6_slits_10, if_pos h]
  obtain ⟨f, hf, rfl⟩ := fl_of (by omega) h
  have o1 := ok.st hf
  have C : ∀ (mi : hM) ml pm, Cl mi ml pm S T → f_X5_slits [.ref 0, .int (nI f), .int b, .int c] (hG mi ml pm) = w_X5_slits_22 (nI f) b c (wi3 b 1 (nI (S 3 f))) (hG mi ml pm) := by
    intro mi ml pm k
    rw [e_X5_slits, c_isFlower k, bI_i, e_X5_slits_5, if_neg h, if_pos (in_nI (by omega) (by omega)), cl_nI (by omega), c_st k _ hf, x5_isWithin, bI_i]
  have M : ∀ (mi : hM) ml pm, Ml mi ml S T → f_X6_slits [.ref 99, .int (nI f), .int b, .int c] (hG mi ml pm) = w_X6_slits_24 (nI f) b c (wi3 b 1 (nI (S 3 f))) (hG (hw mi 99 0 0) ml pm) := by
    intro mi ml pm k
    have k' := Ml_th (0 : Int32) k
    rw [e_X6_slits, m_isFlower k', bI_i, e_X6_slits_10, if_neg h, if_pos (in_nI (by omega) (by omega)), cl_nI (by omega), m_st k' _ hf, x6_in, bI_i]
  by_cases h2 : wi3 b 1 (nI (S 3 f)) = 0
  · refine ⟨-1, S, T, Both_q ok (fun mi ml pm k => ?_) (fun mi ml pm k => ?_)⟩
    · rw [C mi ml pm k, e_X5_slits_22, if_pos h2]
    · rw [M mi ml pm k, e_X6_slits_24, if_pos h2]
  by_cases h3 : wi3 c 1 9 = 0
  · refine ⟨-1, S, T, Both_q ok (fun mi ml pm k => ?_) (fun mi ml pm k => ?_)⟩
    · rw [C mi ml pm k, e_X5_slits_22, if_neg h2, x5_isWithin, bI_i, e_X5_slits_32, if_pos h3]
    · rw [M mi ml pm k, e_X6_slits_24, if_neg h2, x6_in, bI_i, e_X6_slits_34, if_pos h3]
  obtain ⟨p, p1, p2, rfl⟩ := nat_of (b := 1) (by omega) h2 (by omega)
  obtain ⟨l, l1, l2, rfl⟩ := nat_of (b := 1) (n := 9) (by omega) h3 (by omega)
  cases hp : (S 5 2).testBit f with
  | false =>
    refine ⟨-2, S, T, Both_q ok (fun mi ml pm k => ?_) (fun mi ml pm k => ?_)⟩
    · rw [C mi ml pm k, e_X5_slits_22, if_neg h2, x5_isWithin, bI_i, e_X5_slits_32, if_neg h3, c_isPicked k ok (by omega), hp, bI_i, e_X5_slits_45, if_pos (by decide)]
    · rw [M mi ml pm k, e_X6_slits_24, if_neg h2, x6_in, bI_i, e_X6_slits_34, if_neg h3, m_isPicked (Ml_th (0 : Int32) k) ok (by omega), hp, bI_i, e_X6_slits_44, if_pos (by decide)]
  | true =>
    cases ha : amg S f (S 5 24 - 1) with
    | true =>
      refine ⟨-2, S, T, Both_q ok (fun mi ml pm k => ?_) (fun mi ml pm k => ?_)⟩
      · rw [C mi ml pm k, e_X5_slits_22, if_neg h2, x5_isWithin, bI_i, e_X5_slits_32, if_neg h3, c_isPicked k ok (by omega), hp, bI_i, e_X5_slits_45, if_neg (by decide), c_isLink k ok (by omega), ha, bI_i, e_X5_slits_56, if_neg (by decide)]
      · rw [M mi ml pm k, e_X6_slits_24, if_neg h2, x6_in, bI_i, e_X6_slits_34, if_neg h3, m_isPicked (Ml_th (0 : Int32) k) ok (by omega), hp, bI_i, e_X6_slits_44, if_neg (by decide), m_isLink (Ml_th (0 : Int32) k) ok (by omega), ha, bI_i, e_X6_slits_52, if_neg (by decide)]
    | false =>
      have om := Okm_slit ok.2.2.1 (f := f) (p := p) (l := l) (by omega) p1 (by omega) l1 l2
      have ok' := Ok_do ok om
      have rr : ∀ r, 1 ≤ r → (r < 5) → doS S (dset (dset (S 5) (10 + f) p) (17 + f) l) r = S r := fun r h1 h2 => by
        show srow (remS S) 5 _ r = _
        have : srow (remS S) 5 (dset (dset (S 5) (10 + f) p) (17 + f) l) r = remS S r := by funext k; unfold srow; rw [if_neg (by omega)]
        rw [this, remS_o S h1 (by omega)]
      have r01 : doS S (dset (dset (S 5) (10 + f) p) (17 + f) l) 0 1 = S 0 1 := rem01 S
      refine ⟨nI (holS (doS S (dset (dset (S 5) (10 + f) p) (17 + f) l)) (doS S (dset (dset (S 5) (10 + f) p) (17 + f) l) 0 2) f (doS S (dset (dset (S 5) (10 + f) p) (17 + f) l) 5 (3 + f))), _, T, Both_d ok om (fun mi ml pm k => ⟨fun g => w_X5_slits_66 (nI f) (nI p) (nI l) g, ?_, fun m p' km => ?_⟩) (fun mi ml pm k => ⟨fun g => w_X6_slits_62 (nI f) (nI p) (nI l) g, ?_, fun m km => ?_⟩)⟩
      · rw [C mi ml pm k, e_X5_slits_22, if_neg h2, x5_isWithin, bI_i, e_X5_slits_32, if_neg h3, c_isPicked k ok (by omega), hp, bI_i, e_X5_slits_45, if_neg (by decide), c_isLink k ok (by omega), ha, bI_i, e_X5_slits_56, if_pos (by decide)]
      · show ∃ m1, w_X5_slits_66 _ _ _ (hG m ml p') = _ ∧ _
        have c5 := c_N5 km
        have cm := Cm_row (r := 2) (f := f) (v := l) (Cm_row (r := 1) (f := f) (v := p) c5 (by omega) (by omega)) (by omega) (by omega)
        have fr : ∀ c, c < 11 ∨ 15 < c → hw (hw m 13 f (nI p)) 14 f (nI l) c = m c := fun c hc => by rw [hw_oo _ _ _ (by omega), hw_oo _ _ _ (by omega)]
        have kc : Cl (hw (hw m 13 f (nI p)) 14 f (nI l)) ml p' (doS S (dset (dset (S 5) (10 + f) p) (17 + f) l)) T := Cl_N km fr cm
        rw [e_X5_slits_66, if_pos (in_nI (by omega) (by omega)), if_pos (in_nI (by omega) (by omega)), cl_nI (by omega), c_holds kc ok' (by rw [r01]; exact hf), bI_i, e_X5_slits_91]
        exact ⟨_, rfl, fr, cm⟩
      · rw [M mi ml pm k, e_X6_slits_24, if_neg h2, x6_in, bI_i, e_X6_slits_34, if_neg h3, m_isPicked (Ml_th (0 : Int32) k) ok (by omega), hp, bI_i, e_X6_slits_44, if_neg (by decide), m_isLink (Ml_th (0 : Int32) k) ok (by omega), ha, bI_i, e_X6_slits_52, if_pos (by decide)]
      · show ∃ m1, w_X6_slits_62 _ _ _ (hG m ml pm) = _ ∧ _
        have c5 := m_N5 km
        have cm := Mm_set (j := 17 + f) (v := l) (Mm_set (j := 10 + f) (v := p) c5)
        have fr : ∀ c, c ≠ 105 → hw (hw m 105 (10 + f) (nI p)) 105 (17 + f) (nI l) c = m c := fun c hc => by rw [hw_oo _ _ _ hc, hw_oo _ _ _ hc]
        have kc : Ml (hw (hw m 105 (10 + f) (nI p)) 105 (17 + f) (nI l)) ml (doS S (dset (dset (S 5) (10 + f) p) (17 + f) l)) T := Ml_N km (fun c _ hc => fr c hc) cm
        rw [e_X6_slits_62, lit_nI 10, lit_nI 17, nI_add, nI_add, if_pos (in_nI (by omega) (by omega)), if_pos (in_nI (by omega) (by omega)), cl_nI (by omega), cl_nI (by omega), m_holds kc ok' (by rw [r01]; exact hf), bI_i, e_X6_slits_87]
        exact ⟨_, rfl, fr, cm⟩
theorem b_threads {S : pS} (ok : Ok S) (T : Int64) (a : Int32) : ∃ v S' T', Both (f_X5_threads [.ref 0, .int a]) (f_X6_threads [.ref 99, .int a]) S T v S' T' := by
  have F7 := ok.F7
  have n7 := ok.n7
  by_cases h : wi3 a 0 (nI (S 0 1) - 1) = 0
  · refine ⟨-1, S, T, Both_q ok (fun mi ml pm k => ?_) (fun mi ml pm k => ?_)⟩
    · rw [e_X5_threads, c_isFlower k, bI_i, e_X5_threads_5, if_pos h]
    · rw [e_X6_threads, m_isFlower (Ml_th (0 : Int32) k), bI_i, e_X6_threads_10, if_pos h]
  obtain ⟨f, hf, rfl⟩ := fl_of (by omega) h
  cases hp : fit S f with
  | false =>
    refine ⟨-2, S, T, Both_q ok (fun mi ml pm k => ?_) (fun mi ml pm k => ?_)⟩
    · rw [e_X5_threads, c_isFlower k, bI_i, e_X5_threads_5, if_neg h, c_fits k ok hf, hp, bI_i, e_X5_threads_15, if_pos (by decide)]
    · have k' := Ml_th (0 : Int32) k
      rw [e_X6_threads, m_isFlower k', bI_i, e_X6_threads_10, if_neg h, m_can k' ok hf, hp, bI_i, e_X6_threads_20, if_pos (by decide)]
  | true =>
    have hp' := hp
    unfold fit at hp'
    rw [Bool.and_eq_true, Bool.and_eq_true] at hp'
    have hne : ∀ k, k < S 5 24 → ¬ S 5 (25 + k) = f := fun k hk e => by
      have := hp'.1.2
      rw [amg_t hk e] at this
      cases this
    obtain ⟨hlt, om⟩ := Okm_thr ok.2.2.1 F7 hf hp'.1.1 hne
    have ok' := Ok_do ok om
    refine ⟨nI (inc (doS S (dset (dset (S 5) (25 + S 5 24) f) 24 (S 5 24 + 1)))), _, T, Both_d ok om (fun mi ml pm k => ⟨fun g => w_X5_threads_37 (nI f) g, ?_, fun m p' km => ?_⟩) (fun mi ml pm k => ⟨fun g => w_X6_threads_30 (nI f) g, ?_, fun m km => ?_⟩)⟩
    · rw [e_X5_threads, c_isFlower k, bI_i, e_X5_threads_5, if_neg h, c_fits k ok hf, hp, bI_i, e_X5_threads_15, if_neg (by decide), c_n k, if_pos (show nI (S 5 24) < (7 : Int32) from ylt (b := 7) (by omega) (by omega))]
    · show ∃ m1, w_X5_threads_37 _ (hG m ml p') = _ ∧ _
      have c5 := c_N5 km
      have cm := Cm_thr (f := f) c5 (by omega)
      have fr : ∀ c, c < 11 ∨ 15 < c → hw (hw m 15 (S 5 24) (nI f)) 11 7 (nI (S 5 24 + 1)) c = m c := fun c hc => by rw [hw_oo _ _ _ (by omega), hw_oo _ _ _ (by omega)]
      have kc : Cl (hw (hw m 15 (S 5 24) (nI f)) 11 7 (nI (S 5 24 + 1))) ml p' (doS S (dset (dset (S 5) (25 + S 5 24) f) 24 (S 5 24 + 1))) T := Cl_N km fr cm
      rw [e_X5_threads_37, c5.1.2.2.2, if_pos (in_nI (by omega) (by omega)), cl_nI (by omega), nI_1, c_inches kc ok', bI_i, e_X5_threads_70]
      exact ⟨_, rfl, fr, cm⟩
    · have k' := Ml_th (0 : Int32) k
      rw [e_X6_threads, m_isFlower k', bI_i, e_X6_threads_10, if_neg h, m_can k' ok hf, hp, bI_i, e_X6_threads_20, if_neg (by decide)]
    · show ∃ m1, w_X6_threads_30 _ (hG m ml pm) = _ ∧ _
      have c5 := m_N5 km
      have e24 : m 105 24 = nI (S 5 24) := c5 24 (by omega)
      have cm := Mm_set (j := 24) (v := S 5 24 + 1) (Mm_set (j := 25 + S 5 24) (v := f) c5)
      have fr : ∀ c, c ≠ 105 → hw (hw m 105 (25 + S 5 24) (nI f)) 105 24 (nI (S 5 24 + 1)) c = m c := fun c hc => by rw [hw_oo _ _ _ hc, hw_oo _ _ _ hc]
      have kc : Ml (hw (hw m 105 (25 + S 5 24) (nI f)) 105 24 (nI (S 5 24 + 1))) ml (doS S (dset (dset (S 5) (25 + S 5 24) f) 24 (S 5 24 + 1))) T := Ml_N km (fun c _ hc => fr c hc) cm
      rw [e_X6_threads_30, e24, lit_nI 25, nI_add, if_pos (in_nI (by omega) (by omega)), cl_nI (by omega), hw_k _ _ _ (by omega), e24, nI_1, m_inches kc ok', bI_i, e_X6_threads_61]
      exact ⟨_, rfl, fr, cm⟩
theorem b_pulls {S : pS} (ok : Ok S) (T : Int64) : ∃ v S' T', Both (f_X5_pulls [.ref 0]) (f_X6_pulls [.ref 99]) S T v S' T' := by
  have F7 := ok.F7
  have n7 := ok.n7
  by_cases h : S 5 24 = 0
  · refine ⟨-2, S, T, Both_q ok (fun mi ml pm k => ?_) (fun mi ml pm k => ?_)⟩
    · rw [e_X5_pulls, c_n k, h, if_neg (by decide)]
    · rw [e_X6_pulls, m_s k 24 (by omega), h, if_pos (by decide)]
  · obtain ⟨n, hn⟩ : ∃ n, S 5 24 = n + 1 := ⟨S 5 24 - 1, by omega⟩
    refine ⟨nI (S 5 (25 + n)), _, T, Both_d ok (Okm_pul ok.2.2.1 hn) (fun mi ml pm k => ⟨fun g => w_X5_pulls_18 g, ?_, fun m p' km => ?_⟩) (fun mi ml pm k => ⟨fun g => w_X6_pulls_22 g, ?_, fun m km => ?_⟩)⟩
    · rw [e_X5_pulls, c_n k, if_pos (show (1 : Int32) ≤ nI (S 5 24) from yle (a := 1) (by omega) (by omega))]
    · show ∃ m1, w_X5_pulls_18 (hG m ml p') = _ ∧ _
      have c5 := c_N5 km
      have e24 : m 11 7 - 1 = nI n := by rw [c5.1.2.2.2, hn, nm_s]
      have ec : m 15 n = nI (S 5 (25 + n)) := c5.2.2 n (by omega)
      rw [e_X5_pulls_18, e24, if_pos (in_nI (by omega) (by omega)), cl_nI (by omega), ec]
      exact ⟨_, rfl, fun c hc => hw_oo _ _ _ (by omega), Cm_pul c5 hn⟩
    · rw [e_X6_pulls, m_s k 24 (by omega), if_neg (nz h (by omega))]
    · show ∃ m1, w_X6_pulls_22 (hG m ml pm) = _ ∧ _
      have c5 := m_N5 km
      have e24 : m 105 24 - 1 = nI n := by rw [show m 105 24 = nI (S 5 24) from c5 24 (by omega), hn, nm_s]
      have ec : m 105 (25 + n) = nI (S 5 (25 + n)) := by have := c5 (25 + n) (by omega); rwa [Nat.zero_add] at this
      rw [e_X6_pulls_22, e24, lit_nI 25, nI_add, if_pos (in_nI (by omega) (by omega)), if_pos (in_nI (by omega) (by omega)), cl_nI (by omega), hw_k _ _ _ (by omega), ec]
      exact ⟨_, rfl, fun c hc => by rw [hw_oo _ _ _ hc, hw_oo _ _ _ hc], Mm_set (v := 0) (Mm_set c5)⟩
theorem b_water {S : pS} (ok : Ok S) (T : Int64) (a : Int32) : ∃ v S' T', Both (f_X5_water [.ref 0, .int a]) (f_X6_water [.ref 99, .int a]) S T v S' T' := by
  by_cases h : wi3 a 0 1 = 0
  · refine ⟨-1, S, T, Both_q ok (fun mi ml pm k => ?_) (fun mi ml pm k => ?_)⟩
    · rw [e_X5_water, x5_isWithin, bI_i, e_X5_water_6, if_pos h]
    · rw [e_X6_water, x6_in, bI_i, e_X6_water_11, if_pos h]
  obtain ⟨w, -, hw1, rfl⟩ := nat_of (b := 0) (n := 1) (by omega) h (by omega)
  refine ⟨nI (S 5 1), _, T, Both_d ok (Okm_wat ok.2.2.1 hw1) (fun mi ml pm k => ⟨fun g => w_X5_water_15 (nI w) g, ?_, fun m p' km => ?_⟩) (fun mi ml pm k => ⟨fun g => w_X6_water_20 (nI w) g, ?_, fun m km => ?_⟩)⟩
  · rw [e_X5_water, x5_isWithin, bI_i, e_X5_water_6, if_neg h]
  · show ∃ m1, w_X5_water_15 _ (hG m ml p') = _ ∧ _
    have c5 := c_N5 km
    rw [e_X5_water_15, c5.1.2.1]
    exact ⟨_, rfl, fun c hc => hw_oo _ _ _ (by omega), Cm_num c5 (by omega)⟩
  · rw [e_X6_water, x6_in, bI_i, e_X6_water_11, if_neg h]
  · show ∃ m1, w_X6_water_20 _ (hG m ml pm) = _ ∧ _
    have c5 := m_N5 km
    rw [e_X6_water_20, show m 105 1 = nI (S 5 1) from c5 1 (by omega)]
    exact ⟨_, rfl, fun c hc => hw_oo _ _ _ hc, Mm_set c5⟩
