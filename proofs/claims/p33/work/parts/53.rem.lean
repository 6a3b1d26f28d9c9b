/-! remember and notes -/
def remS (S : pS) : pS := fun r => if r = 0 then dset (S 0) 3 (if S 0 3 < 10 then S 0 3 + 1 else 10) else if 10 ≤ r ∧ r < 20 then (if S 0 3 < 10 then (if r = 10 + S 0 3 then S 5 else S r) else (if r = 19 then S 5 else S (r + 1))) else S r
theorem remS_o (S : pS) {r : Nat} (h : 1 ≤ r) (h2 : r < 10 ∨ 20 ≤ r) : remS S r = S r := by
  unfold remS
  rw [if_neg (by omega), if_neg (by omega)]
theorem remS_0 (S : pS) {k : Nat} (h : k ≠ 3) : remS S 0 k = S 0 k := by
  unfold remS
  rw [if_pos rfl]; unfold dset; rw [if_neg h]
theorem remS_3 (S : pS) : remS S 0 3 = if S 0 3 < 10 then S 0 3 + 1 else 10 := by
  unfold remS
  rw [if_pos rfl]; unfold dset; rw [if_pos rfl]
theorem remS_a {S : pS} (hu : S 0 3 < 10) {i : Nat} (hi : i < 10) : remS S (10 + i) = if i = S 0 3 then S 5 else S (10 + i) := by
  unfold remS
  rw [if_neg (by omega), if_pos (by omega), if_pos hu]
  by_cases q : i = S 0 3
  · rw [if_pos (by omega), if_pos q]
  · rw [if_neg (by omega), if_neg q]
theorem remS_b {S : pS} (hu : ¬ S 0 3 < 10) {i : Nat} (hi : i < 10) : remS S (10 + i) = if i = 9 then S 5 else S (10 + (i + 1)) := by
  unfold remS
  rw [if_neg (by omega), if_pos (by omega), if_neg hu]
  by_cases q : i = 9
  · rw [if_pos (by omega), if_pos q]
  · rw [if_neg (by omega), if_neg q]; rfl
theorem Ok_rem {S : pS} (ok : Ok S) : Ok (remS S) := by
  have u := ok.u
  obtain ⟨a, b, c, d, e, g⟩ := ok
  refine ⟨?_, ?_, ?_, ?_, ?_, ?_⟩
  · rw [remS_0 S (by omega), remS_o S (r := 1) (by omega) (by omega)]; exact a
  · rw [remS_0 S (by omega), remS_0 S (by omega), remS_o S (r := 2) (by omega) (by omega), remS_o S (r := 3) (by omega) (by omega), remS_o S (r := 4) (by omega) (by omega)]; exact b
  · rw [remS_0 S (by omega), remS_o S (r := 3) (by omega) (by omega), remS_o S (r := 5) (by omega) (by omega)]; exact c
  · rw [remS_3, remS_0 S (k := 1) (by omega), remS_o S (r := 3) (by omega) (by omega)]
    by_cases hu : S 0 3 < 10
    · rw [if_pos hu]
      refine ⟨by omega, fun i hi => ?_⟩
      rw [remS_a hu (by omega)]
      split
      · exact c
      · exact d.2 i (by omega)
    · rw [if_neg hu]
      refine ⟨by omega, fun i hi => ?_⟩
      rw [remS_b hu (by omega)]
      split
      · exact c
      · exact d.2 (i + 1) (by omega)
  · intro i hi
    rw [remS_0 S (k := 1) (by omega), remS_o S (r := 3) (by omega) (by omega), remS_o S (r := 6) (by omega) (by omega), remS_o S (r := 20 + i) (by omega) (by omega)]
    exact e i hi
  · rw [remS_0 S (by omega)]; exact g
theorem isPa_M {a : Nat} (h : isPa a) : isM a := by
  obtain ⟨i, hi, rfl⟩ := h
  rcases (show i = 0 ∨ i = 1 ∨ i = 2 ∨ i = 3 ∨ i = 4 ∨ i = 5 ∨ i = 6 ∨ i = 7 ∨ i = 8 ∨ i = 9 by omega) with rfl | rfl | rfl | rfl | rfl | rfl | rfl | rfl | rfl | rfl <;> exact ⟨by decide, by decide⟩
theorem isPa_b {a : Nat} (h : isPa a) : 24 ≤ a ∧ a + 4 < 74 := by
  obtain ⟨i, hi, rfl⟩ := h
  omega
theorem isPa_d {a b : Nat} (h : isPa a) (h' : isPa b) (hne : a ≠ b) : a + 4 < b ∨ b + 4 < a := by
  obtain ⟨i, hi, rfl⟩ := h
  obtain ⟨j, hj, rfl⟩ := h'
  omega
theorem tkm_o (mi : hM) {a b c : Nat} (h : c < a ∨ a + 4 < c) : tkm mi a b c = mi c := by
  funext k
  unfold tkm
  rw [if_neg (by omega), if_neg (by omega)]
theorem tkm_Cm {mi : hM} {a b : Nat} {d : Nat → Nat} (h24 : d 24 ≤ 7) (k : Cm mi b d) : Cm (tkm mi a b) a d := by
  obtain ⟨⟨a1, a2, a3, a4⟩, k2, k3⟩ := k
  have t0 : ∀ j, (j = 0 ∨ j = 1 ∨ j = 2 ∨ j = 7) → tkm mi a b a j = mi b j := fun j hj => by unfold tkm; rw [if_pos rfl, if_pos hj]
  have t1 : ∀ i, 1 ≤ i → i ≤ 4 → ∀ j, j < 7 → tkm mi a b (a + i) j = mi (b + i) j := fun i h1 h2 j hj => by
    unfold tkm; rw [if_neg (by omega), if_pos (by omega), if_pos hj, show b + (a + i - a) = b + i by omega]
  refine ⟨⟨by rw [t0 0 (by omega)]; exact a1, by rw [t0 1 (by omega)]; exact a2, by rw [t0 2 (by omega)]; exact a3, by rw [t0 7 (by omega)]; exact a4⟩, fun f hf => ?_, fun j hj => ?_⟩
  · rw [t1 1 (by omega) (by omega) f hf, t1 2 (by omega) (by omega) f hf, t1 3 (by omega) (by omega) f hf]; exact k2 f hf
  · rw [t1 4 (by omega) (by omega) j (by omega)]; exact k3 j hj
section W1
variable {mi : hM} {ml : Nat → Nat → Int64} {pm : Nat → Option Nat} {S : pS} {T : Int64}
/-- all but the undone ones, and a new list of those -/
theorem Cl_U (k : Cl mi ml pm S T) {m1 : hM} {p1 : Nat → Option Nat} {S1 : pS} (h : ∀ c, c < 24 ∨ 74 ≤ c → (c ≠ 0 → m1 c = mi c)) (h0 : ∀ j, j ≠ 4 → m1 0 j = mi 0 j) (s : ∀ r, 1 ≤ r → (r < 10 ∨ 20 ≤ r) → S1 r = S r) (s0 : ∀ j, j ≠ 3 → S1 0 j = S 0 j) (u : ClU m1 p1 S1) : Cl m1 ml p1 S1 T := by
  obtain ⟨t, d, nn, _, kk, e, tr⟩ := k
  refine ⟨ClT_fr (by rw [h 1 (by omega) (by omega)]) (h 2 (by omega) (by omega)) (s0 0 (by omega)) (s 1 (by omega) (by omega)) t, ClD_fr (fun c _ _ => h c (by omega) (by omega)) (s0 1 (by omega)) (s0 2 (by omega)) (s 2 (by omega) (by omega)) (s 3 (by omega) (by omega)) (s 4 (by omega) (by omega)) d, ?_, u, ClK_fr (h 18 (by omega) (by omega)) (fun c _ _ => h c (by omega) (by omega)) (s 6 (by omega) (by omega)) (fun i _ => s _ (by omega) (by omega)) kk, ClE_fr (h0 8 (by omega)) (fun c _ _ => h c (by omega) (by omega)) (s0 4 (by omega)) e, tr⟩
  rw [s 5 (by omega) (by omega)]
  exact Cm_fr (fun c _ _ => h c (by omega) (by omega)) nn
theorem c_rem (k : Cl mi ml pm S T) (ok : Ok S) : ∃ m1 p1, f_X5_remember [.ref 0] (hG mi ml pm) = some (none, hG m1 ml p1) ∧ Cl m1 ml p1 (remS S) T ∧ ∀ c, 99 ≤ c → m1 c = mi c := by
  have u := ok.u
  have F7 := ok.F7
  have n7 := ok.n7
  obtain ⟨q, q1, q2, q3⟩ := k.2.2.2.1.2
  rw [e_X5_remember, c_kn k]
  by_cases hu : S 0 3 < 10
  · obtain ⟨p1, p2⟩ := q1 _ hu
    have b := isPa_b p2
    rw [if_pos (show nI (S 0 3) < (10 : Int32) from ylt (b := 10) hu (by omega)), e_X5_remember_58, c_kn k, if_pos (in_nI hu (by omega)), cl_nI (by omega), show xm pm 16 (S 0 3) = pm (S 0 3) from rfl, p1, Option.bind_some, if_pos ((M_isT (isPa_M p2)).symm ▸ trivial), x0_take _ _ _ (isPa_M p2) isM_11 (by omega), bV_v, e_X5_remember_74]
    refine ⟨_, pm, rfl, ?_, ?_⟩
    · have e4 : tkm mi (q (S 0 3)) 11 0 4 = nI (S 0 3) := by rw [tkm_o _ (by omega)]; exact c_kn k
      rw [e4, nI_1]
      refine Cl_U k (fun c hc h0 => ?_) (fun j hj => ?_) (fun r h1 h2 => remS_o S h1 h2) (fun j hj => remS_0 S hj) ⟨?_, q, q1, q2, fun i hi h10 => ?_⟩
      · rw [hw_oo _ _ _ h0, tkm_o _ (by omega)]
      · rw [hw_k _ _ _ hj, tkm_o _ (by omega)]
      · rw [hw_c, remS_3, if_pos hu]
      · rw [remS_3, if_pos hu] at hi
        rw [remS_a hu h10]
        by_cases e : i = S 0 3
        · rw [if_pos e, e]
          exact Cm_fr (fun c h1 h2 => hw_oo _ _ _ (by omega)) (tkm_Cm (by omega) k.2.2.1)
        · rw [if_neg e]
          have pi := (q1 i h10).2
          have bi := isPa_b pi
          have dd := isPa_d pi p2 (fun c => e (q2 i _ h10 hu c))
          exact Cm_fr (fun c h1 h2 => by rw [hw_oo _ _ _ (by omega), tkm_o _ (by omega)]) (q3 i (by omega) h10)
    · intro c hc
      rw [hw_oo _ _ _ (by omega), tkm_o _ (by omega)]
  · have e10 : S 0 3 = 10 := by omega
    obtain ⟨p1, p2⟩ := q1 0 (by omega)
    have b := isPa_b p2
    rw [if_neg (show ¬ nI (S 0 3) < (10 : Int32) from nlt (b := 10) (by omega) (by omega)), p1, Option.bind_some]
    have lp := lpH (w := fun p i => w_X5_remember_18 (q 0) i (hG mi ml p)) (fun i k => if k + 1 < i then pm (k + 1) else pm k) (a := 1) (n := 10) ?_ (by omega)
    · have st : (fun k => if k + 1 < 1 then pm (k + 1) else pm k) = pm := by funext k; rw [if_neg (by omega)]
      have lp' : w_X5_remember_18 (q 0) (nI 1) (hG mi ml pm) = w_X5_remember_18 (q 0) (nI 10) (hG mi ml (fun k => if k + 1 < 10 then pm (k + 1) else pm k)) := by
        refine Eq.trans ?_ lp
        show _ = w_X5_remember_18 _ _ (hG mi ml (fun k => if k + 1 < 1 then pm (k + 1) else pm k))
        rw [st]
      rw [show (1 : Int32) = nI 1 from rfl, lp', e_X5_remember_18, if_pos (show (10 : Int32) ≤ nI 10 from by decide), if_pos ⟨⟨show 16 < 113 by omega, rfl, show sx_in 9 10 from by decide⟩, (M_isT (isPa_M p2)).symm ▸ trivial⟩, e_X5_remember_58b, show hw mi 0 4 9 0 4 = nI 9 from hw_c _ _ _ _, if_pos (in_nI (by omega) (by omega)), cl_nI (by omega)]
      generalize hp : va_up (fun k => if k + 1 < 10 then pm (k + 1) else pm k) 9 (some (q 0)) = p9
      have e9 : ∀ i, i < 10 → p9 i = some (if i < 9 then q (i + 1) else q 0) := by
        intro i hi
        rw [← hp]
        unfold va_up
        by_cases c : i = 9
        · rw [if_pos c, if_neg (by omega)]
        · rw [if_neg c, if_pos (show i < 9 by omega)]
          show (if i + 1 < 10 then pm (i + 1) else pm i) = _
          rw [if_pos (by omega)]; exact (q1 (i + 1) (by omega)).1
      rw [show xm p9 16 9 = p9 9 from rfl, e9 9 (by omega), Option.bind_some, if_neg (show ¬ 9 < 9 by omega), if_pos ((M_isT (isPa_M p2)).symm ▸ trivial), x0_take _ _ _ (isPa_M p2) isM_11 (by omega), bV_v, e_X5_remember_74b]
      refine ⟨_, p9, rfl, ?_, ?_⟩
      · have e4 : tkm (hw mi 0 4 9) (q 0) 11 0 4 = nI 9 := by rw [tkm_o _ (by omega), hw_c]; rfl
        rw [e4, nI_1]
        refine Cl_U k (fun c hc h0 => ?_) (fun j hj => ?_) (fun r h1 h2 => remS_o S h1 h2) (fun j hj => remS_0 S hj) ⟨?_, fun i => if i < 9 then q (i + 1) else q 0, fun i hi => ⟨e9 i hi, ?_⟩, fun i j hi hj e => ?_, fun i hi h10 => ?_⟩
        · rw [hw_oo _ _ _ h0, tkm_o _ (by omega), hw_oo _ _ _ h0]
        · rw [hw_k _ _ _ hj, tkm_o _ (by omega), hw_k _ _ _ hj]
        · rw [hw_c, remS_3, if_neg hu]
        · show isPa (if i < 9 then q (i + 1) else q 0)
          split
          · exact (q1 (i + 1) (by omega)).2
          · exact p2
        · have e' : (if i < 9 then q (i + 1) else q 0) = (if j < 9 then q (j + 1) else q 0) := e
          by_cases c1 : i < 9 <;> by_cases c2 : j < 9
          · rw [if_pos c1, if_pos c2] at e'
            have := q2 _ _ (by omega) (by omega) e'; omega
          · rw [if_pos c1, if_neg c2] at e'
            have := q2 _ _ (by omega) (by omega) e'; omega
          · rw [if_neg c1, if_pos c2] at e'
            have := q2 _ _ (by omega) (by omega) e'; omega
          · omega
        · show Cm _ (if i < 9 then q (i + 1) else q 0) _
          rw [remS_b hu h10]
          by_cases c : i = 9
          · rw [if_pos c, if_neg (by omega)]
            refine Cm_fr (fun c h1 h2 => hw_oo _ _ _ (by omega)) (tkm_Cm (by omega) (Cm_fr (fun c h1 h2 => hw_oo _ _ _ (by omega)) k.2.2.1))
          · rw [if_neg c, if_pos (by omega)]
            have pi := (q1 (i + 1) (by omega)).2
            have bi := isPa_b pi
            have dd := isPa_d pi p2 (fun c => by have := q2 (i + 1) 0 (by omega) (by omega) c; omega)
            exact Cm_fr (fun c h1 h2 => by rw [hw_oo _ _ _ (by omega), tkm_o _ (by omega), hw_oo _ _ _ (by omega)]) (q3 (i + 1) (by omega) (by omega))
      · intro c hc
        rw [hw_oo _ _ _ (by omega), tkm_o _ (by omega), hw_oo _ _ _ (by omega)]
    · intro i h1 hi
      show w_X5_remember_18 _ (nI i) (hG mi ml (fun k => if k + 1 < i then pm (k + 1) else pm k)) = w_X5_remember_18 _ (nI (i + 1)) (hG mi ml (fun k => if k + 1 < i + 1 then pm (k + 1) else pm k))
      obtain ⟨pi1, pi2⟩ := q1 i hi
      rw [e_X5_remember_18, if_neg (show ¬ (10 : Int32) ≤ nI i from nle (a := 10) hi (by omega)), if_pos (in_nI hi (by omega)), cl_nI (by omega)]
      show (if i + 1 < i then pm (i + 1) else pm i).bind _ = _
      rw [if_neg (show ¬ i + 1 < i by omega), pi1, Option.bind_some, show nI i - 1 = nI (i - 1) from pk_sub (b := 1) (by omega), if_pos ⟨⟨show 16 < 113 by omega, rfl, in_nI (by show i - 1 < 10; omega) (by show 10 ≤ 100000; omega)⟩, (M_isT (isPa_M pi2)).symm ▸ trivial⟩, nI_1, cl_nI (by omega)]
      congr 2
      funext k
      unfold va_up
      by_cases c : k = i - 1
      · rw [if_pos c, if_pos (by omega), c, show i - 1 + 1 = i by omega, pi1]
      · rw [if_neg c]
        show (if k + 1 < i then pm (k + 1) else pm k) = _
        by_cases c2 : k + 1 < i
        · rw [if_pos c2, if_pos (by omega)]
        · rw [if_neg c2, if_neg (by omega)]
theorem Ml_U (k : Ml mi ml S T) {m1 : hM} {S1 : pS} (h : ∀ c, 100 ≤ c → c ≠ 108 → m1 c = mi c) (h0 : ∀ j, j ≠ 18 → m1 99 j = mi 99 j) (s : ∀ r, 1 ≤ r → (r < 10 ∨ 20 ≤ r) → S1 r = S r) (s0 : ∀ j, j ≠ 3 → S1 0 j = S 0 j) (u : m1 99 18 = nI (S1 0 3) ∧ ∀ i, i < S1 0 3 → Mm m1 108 (32 * i) (S1 (10 + i))) : Ml m1 ml S1 T := by
  obtain ⟨t, d, nn, _, kk, e, tr⟩ := k
  refine ⟨MlT_fr (h0 3 (by omega)) (h 100 (by omega) (by omega)) (s0 0 (by omega)) (s 1 (by omega) (by omega)) t, MlD_fr (by rw [h 101 (by omega) (by omega)]) (by rw [h 101 (by omega) (by omega)]) (fun c _ _ => h c (by omega) (by omega)) (s0 1 (by omega)) (s0 2 (by omega)) (s 2 (by omega) (by omega)) (s 3 (by omega) (by omega)) (s 4 (by omega) (by omega)) d, ?_, u, MlK_fr (h 107 (by omega) (by omega)) (h 106 (by omega) (by omega)) (s 6 (by omega) (by omega)) (fun i _ => s _ (by omega) (by omega)) kk, by rw [h0 21 (by omega), s0 4 (by omega)]; exact e, tr⟩
  unfold Mm
  rw [h 105 (by omega) (by omega), s 5 (by omega) (by omega)]
  exact nn
theorem m_notes (k : Ml mi ml S T) (ok : Ok S) (pm : Nat → Option Nat) : ∃ m1, f_X6_notes [.ref 99] (hG mi ml pm) = some (none, hG m1 ml pm) ∧ Ml m1 ml (remS S) T ∧ ∀ c, c < 99 → m1 c = mi c := by
  have u := ok.u
  rw [e_X6_notes, m_kn k]
  by_cases hu : S 0 3 < 10
  · rw [if_neg (show ¬ nI (S 0 3) = (10 : Int32) from fun c => absurd ((eq_nI (b := 10) (by omega) (by omega)).mp c) (by omega)), x6_notes2 ml pm mi (by omega) (m_kn k)]
    refine ⟨_, rfl, ?_, fun c hc => by rw [hw_oo _ _ _ (by omega), hcel_ne _ _ (by omega)]⟩
    refine Ml_U k (fun c h1 h2 => by rw [hw_oo _ _ _ (by omega), hcel_ne _ _ h2]) (fun j hj => by rw [hw_k _ _ _ hj, hcel_ne _ _ (by omega)]) (fun r h1 h2 => remS_o S h1 h2) (fun j hj => remS_0 S hj) ⟨by rw [hw_c, remS_3, if_pos hu], fun i hi => ?_⟩
    rw [remS_3, if_pos hu] at hi
    rw [remS_a hu (by omega)]
    intro j hj
    rw [hw_oo _ _ _ (by omega), hcel_at]
    show (if 32 * S 0 3 ≤ 32 * i + j ∧ 32 * i + j < 32 * S 0 3 + 32 then mi 105 (32 * i + j - 32 * S 0 3) else mi 108 (32 * i + j)) = _
    by_cases e : i = S 0 3
    · rw [if_pos (by omega), if_pos e, show 32 * i + j - 32 * S 0 3 = j by omega, m_s k j hj]
    · rw [if_neg (by omega), if_neg e]
      exact k.2.2.2.1.2 i (by omega) j hj
  · have e10 : S 0 3 = 10 := by omega
    rw [if_pos (show nI (S 0 3) = (10 : Int32) by rw [e10]; rfl)]
    have lp := lpG (w := fun m i => w_X6_notes_11 i (hG m ml pm)) (fun i => hcel mi 108 (fun k => if k < i then mi 108 (k + 32) else mi 108 k)) (n := 288) ?_ 0 (by omega)
    · have st : hcel mi 108 (fun k => if k < 0 then mi 108 (k + 32) else mi 108 k) = mi := by
        have : (fun k => if k < 0 then mi 108 (k + 32) else mi 108 k) = mi 108 := by funext k; rw [if_neg (by omega)]
        rw [this, hcel_self]
      have lp' : w_X6_notes_11 0 (hG mi ml pm) = w_X6_notes_11 (nI 288) (hG (hcel mi 108 (fun k => if k < 288 then mi 108 (k + 32) else mi 108 k)) ml pm) := by
        refine Eq.trans ?_ lp
        show _ = w_X6_notes_11 _ (hG (hcel mi 108 (fun k => if k < 0 then mi 108 (k + 32) else mi 108 k)) ml pm)
        rw [st]; rfl
      rw [lp', e_X6_notes_11, if_pos (by decide), lit_nI 9, x6_notes2 ml pm _ (u := 9) (by omega) (hw_c _ _ _ _)]
      refine ⟨_, rfl, ?_, fun c hc => by rw [hw_oo _ _ _ (by omega), hcel_ne _ _ (by omega), hw_oo _ _ _ (by omega), hcel_ne _ _ (by omega)]⟩
      refine Ml_U k (fun c h1 h2 => by rw [hw_oo _ _ _ (by omega), hcel_ne _ _ h2, hw_oo _ _ _ (by omega), hcel_ne _ _ h2]) (fun j hj => by rw [hw_k _ _ _ hj, hcel_ne _ _ (by omega), hw_k _ _ _ hj, hcel_ne _ _ (by omega)]) (fun r h1 h2 => remS_o S h1 h2) (fun j hj => remS_0 S hj) ⟨by rw [hw_c, remS_3, if_neg hu], fun i hi => ?_⟩
      rw [remS_3, if_neg hu] at hi
      rw [remS_b hu (by omega)]
      intro j hj
      rw [hw_oo _ _ _ (by omega), hcel_at]
      show (if 32 * 9 ≤ 32 * i + j ∧ 32 * i + j < 32 * 9 + 32 then _ else _) = _
      by_cases e : i = 9
      · rw [if_pos (by omega), if_pos e, show 32 * i + j - 32 * 9 = j by omega, hw_oo _ _ _ (by omega), hcel_ne _ _ (by omega), m_s k j hj]
      · rw [if_neg (by omega), if_neg e, hw_oo _ _ _ (by omega), hcel_at]
        show (if 32 * i + j < 288 then mi 108 (32 * i + j + 32) else _) = _
        rw [if_pos (by omega), show 32 * i + j + 32 = 32 * (i + 1) + j by omega]
        exact k.2.2.2.1.2 (i + 1) (by omega) j hj
    · intro i hi
      show w_X6_notes_11 (nI i) (hG (hcel mi 108 (fun k => if k < i then mi 108 (k + 32) else mi 108 k)) ml pm) = w_X6_notes_11 (nI (i + 1)) (hG (hcel mi 108 (fun k => if k < i + 1 then mi 108 (k + 32) else mi 108 k)) ml pm)
      rw [e_X6_notes_11, if_neg (show ¬ (288 : Int32) ≤ nI i from nle (a := 288) hi (by omega)), lit_nI 32, nI_add, if_pos (in_nI (by omega) (by omega)), if_pos (in_nI (by omega) (by omega)), cl_nI (by omega), cl_nI (by omega), nI_1, hw_hcel, hcel_hcel, hcel_at]
      congr 3
      funext k
      simp only [upd]
      by_cases c : k = i
      · rw [if_pos c, if_neg (by omega), if_pos (by omega), c]
      · rw [if_neg c]
        by_cases c2 : k < i
        · rw [if_pos c2, if_pos (by omega)]
        · rw [if_neg c2, if_neg (by omega)]
/-- another NOW -/
theorem Cl_N (k : Cl mi ml pm S T) {m1 : hM} {d : Nat → Nat} (h : ∀ c, c < 11 ∨ 15 < c → m1 c = mi c) (hd : Cm m1 11 d) : Cl m1 ml pm (srow S 5 d) T := by
  have g : ∀ r, r ≠ 5 → srow S 5 d r = S r := fun r hr => by funext k; unfold srow; rw [if_neg hr]
  have g5 : srow S 5 d 5 = d := by funext k; unfold srow; rw [if_pos rfl]
  obtain ⟨t, dd, nn, u, kk, e, tr⟩ := k
  refine ⟨ClT_fr (by rw [h 1 (by omega)]) (h 2 (by omega)) (by rw [g 0 (by omega)]) (g 1 (by omega)) t, ClD_fr (fun c _ _ => h c (by omega)) (by rw [g 0 (by omega)]) (by rw [g 0 (by omega)]) (g 2 (by omega)) (g 3 (by omega)) (g 4 (by omega)) dd, by rw [g5]; exact hd, ClU_fr (by rw [h 0 (by omega)]) (fun c _ _ => h c (by omega)) (by rw [g 0 (by omega)]) (fun i _ => g _ (by omega)) u, ClK_fr (h 18 (by omega)) (fun c _ _ => h c (by omega)) (g 6 (by omega)) (fun i _ => g _ (by omega)) kk, ClE_fr (by rw [h 0 (by omega)]) (fun c _ _ => h c (by omega)) (by rw [g 0 (by omega)]) e, tr⟩
theorem Ml_N (k : Ml mi ml S T) {m1 : hM} {d : Nat → Nat} (h : ∀ c, 99 ≤ c → c ≠ 105 → m1 c = mi c) (hd : Mm m1 105 0 d) : Ml m1 ml (srow S 5 d) T := by
  have g : ∀ r, r ≠ 5 → srow S 5 d r = S r := fun r hr => by funext k; unfold srow; rw [if_neg hr]
  have g5 : srow S 5 d 5 = d := by funext k; unfold srow; rw [if_pos rfl]
  unfold Ml at k ⊢
  rw [g5, g 0 (by omega), g 1 (by omega), g 2 (by omega), g 3 (by omega), g 4 (by omega), g 6 (by omega), h 99 (by omega) (by omega), h 100 (by omega) (by omega), h 101 (by omega) (by omega), h 102 (by omega) (by omega), h 103 (by omega) (by omega), h 104 (by omega) (by omega), h 107 (by omega) (by omega)]
  obtain ⟨t, dd, nn, u, kk, e, tr⟩ := k
  refine ⟨t, dd, hd, ⟨u.1, fun i hi => ?_⟩, fun i hi => ⟨(kk i hi).1, fun e => ?_⟩, e, tr⟩
  · unfold Mm
    rw [h 108 (by omega) (by omega), g (10 + i) (by omega)]
    exact u.2 i hi
  · unfold Mm
    rw [h 106 (by omega) (by omega), g (20 + i) (by omega)]
    exact (kk i hi).2 e
theorem Ok_N (ok : Ok S) {d : Nat → Nat} (hd : Okm (S 0 1) (S 3) d) : Ok (srow S 5 d) := by
  have g : ∀ r, r ≠ 5 → srow S 5 d r = S r := fun r hr => by funext k; unfold srow; rw [if_neg hr]
  have g5 : srow S 5 d 5 = d := by funext k; unfold srow; rw [if_pos rfl]
  obtain ⟨a, b, c, dd, e, f⟩ := ok
  unfold Ok
  rw [g5, g 0 (by omega), g 1 (by omega), g 2 (by omega), g 3 (by omega), g 4 (by omega), g 6 (by omega)]
  refine ⟨a, b, hd, ⟨dd.1, fun i hi => ?_⟩, fun i hi => ⟨(e i hi).1, fun e1 => ?_⟩, f⟩
  · rw [g (10 + i) (by omega)]; exact dd.2 i hi
  · rw [g (20 + i) (by omega)]; exact (e i hi).2 e1
/-- a doing: remember, then another NOW -/
def doS (S : pS) (d : Nat → Nat) : pS := srow (remS S) 5 d
theorem Ok_do (ok : Ok S) {d : Nat → Nat} (hd : Okm (S 0 1) (S 3) d) : Ok (doS S d) :=
  Ok_N (Ok_rem ok) (by rw [remS_0 S (by omega), remS_o S (r := 3) (by omega) (by omega)]; exact hd)
theorem rem5 (S : pS) : remS S 5 = S 5 := remS_o S (r := 5) (by omega) (by omega)
theorem rem01 (S : pS) : remS S 0 1 = S 0 1 := remS_0 S (by omega)
end W1
