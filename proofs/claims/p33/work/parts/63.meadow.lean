/-! meadow -/
def prs (L : Nat → Nat) (n : Nat) : Nat → Nat → Nat → Nat → Nat → Nat → pS → Bool × Nat × Nat × Nat × pS
  | 0, _, _, _, _, _, D => (false, 0, 0, 0, D)
  | r + 1, i, a, F, w, wt, D => if tkd L n a = 0 then (true, i, F, w, D) else itm L n a F w wt D (fun q => (false, q, 0, 0, D)) (fun a1 F1 w1 t1 D1 => prs L n r (i + 1) a1 F1 w1 t1 D1)
def CDf (m : hM) (F w : Nat) (D : pS) : Prop := m 3 0 = nI F ∧ m 3 1 = nI w ∧ ∀ f, f < F → m 4 f = nI (D 2 f) ∧ m 5 f = nI (D 3 f) ∧ m 6 f = nI (D 4 f)
def MDf (m : hM) (F w : Nat) (D : pS) : Prop := m 101 2 = nI F ∧ m 101 3 = nI w ∧ ∀ f, f < F → m 102 (7 + f) = nI (D 2 f) ∧ m 103 (7 + f) = nI (D 3 f) ∧ m 104 (7 + f) = nI (D 4 f)
def CG (ml : Nat → Nat → Int64) (pm : Nat → Option Nat) (m : hM) (X : Option sx_R) (R : Bool × Nat × Nat × Nat × pS) : Prop := ∃ m1 : hM, FrC m1 m ∧ X = some (some (.int (b01 R.1)), hG m1 ml pm) ∧ (R.1 = true → m1 1 3 = nI R.2.1 ∧ CDf m1 R.2.2.1 R.2.2.2.1 R.2.2.2.2) ∧ (R.1 = false → m1 1 8 = nI R.2.1)
def MG (ml : Nat → Nat → Int64) (pm : Nat → Option Nat) (m : hM) (X : Option sx_R) (R : Bool × Nat × Nat × Nat × pS) : Prop := ∃ m1 : hM, FrM m1 m ∧ (R.1 = true → X = w_X6_meadow_142 (nI R.2.1) 1 (hG m1 ml pm) ∧ MDf m1 R.2.2.1 R.2.2.2.1 R.2.2.2.2) ∧ (R.1 = false → X = some (some (.int (-10 - nI R.2.1)), hG m1 ml pm))
def PG (n : Nat) (R : Bool × Nat × Nat × Nat × pS) : Prop := (R.1 = true → R.2.1 ≤ n ∧ R.2.2.1 ≤ 7 ∧ R.2.2.2.1 ≤ 9 ∧ DB R.2.2.1 R.2.2.2.2) ∧ (R.1 = false → R.2.1 ≤ n)
theorem prs_ok {L : Nat → Nat} {n : Nat} : ∀ r i a F w wt D, n < a + r → i ≤ a → a ≤ n → F ≤ 7 → w ≤ 9 → wt ≤ 1 → DB F D → PG n (prs L n r i a F w wt D) := by
  intro r
  induction r with
  | zero => intro i a F w wt D h _ h2; omega
  | succ r ih =>
    intro i a F w wt D h hi ha hF hw9 ht hD
    show PG n (if tkd L n a = 0 then (true, i, F, w, D) else itm L n a F w wt D (fun q => (false, q, 0, 0, D)) (fun a1 F1 w1 t1 D1 => prs L n r (i + 1) a1 F1 w1 t1 D1))
    by_cases q : tkd L n a = 0
    · rw [if_pos q]; exact ⟨fun _ => ⟨show i ≤ n by omega, hF, hw9, hD⟩, fun c => by cases c⟩
    · rw [if_neg q]
      have ip := itm_pure ha hF hw9 ht hD q
      refine itm_c (C := PG n) ip ip (fun q h _ => ⟨(fun c => by cases c), fun _ => h⟩) (fun a1 F1 w1 t1 D1 h1 _ => ?_)
      exact ih (i + 1) a1 F1 w1 t1 D1 (by omega) (by omega) h1.2.1 h1.2.2.1 h1.2.2.2.1 h1.2.2.2.2.1 h1.2.2.2.2.2
section K1
variable (ml : Nat → Nat → Int64) (pm : Nat → Option Nat) {L : Nat → Nat} {n : Nat}
theorem c_reads : ∀ r i a F w wt D (m : hM), n < a + r → i ≤ a → a ≤ n → F ≤ 7 → w ≤ 9 → wt ≤ 1 → DB F D → CT m L n → m 1 5 = nI a → m 1 3 = nI i → CD m F w wt D →
    CG ml pm m (w_X3_reads_24 (nI i) (hG m ml pm)) (prs L n r i a F w wt D) := by
  intro r
  induction r with
  | zero => intro i a F w wt D m h _ h2; omega
  | succ r ih =>
    intro i a F w wt D m h hi ha hF hw9 ht hD ct h5 h3 cd
    have hn := ct.1
    obtain ⟨m0, r1, r2, r3, r4, r5, r6, r7⟩ := c_token ml pm ha ct h5
    have f0 := fr1 r6 r7
    have ct0 := CT_F ct f0
    have cd0 : CD m0 F w wt D := by
      unfold CD; rw [r7 3 (by omega), r6 4 (by omega), r7 4 (by omega), r7 5 (by omega), r7 6 (by omega)]; exact cd
    have kl := tkd_le L n a
    show CG ml pm m (w_X3_reads_24 (nI i) (hG m ml pm)) (if tkd L n a = 0 then (true, i, F, w, D) else itm L n a F w wt D (fun q => (false, q, 0, 0, D)) (fun a1 F1 w1 t1 D1 => prs L n r (i + 1) a1 F1 w1 t1 D1))
    rw [e_X3_reads_24, if_neg (show ¬ (200 : Int32) < nI i from fun c => absurd ((lt_nI (a := 200) (by omega) (by omega)).mp c) (by omega)), r1, bV_v, e_X3_reads_35, r4]
    by_cases q : tkd L n a = 0
    · rw [if_pos q, if_pos (show nI (tkd L n a) = 0 by rw [q]; rfl)]
      exact ⟨m0, f0, rfl, fun _ => ⟨by rw [r6 3 (by omega)]; exact h3, cd0.1, cd0.2.1, cd0.2.2.2⟩, fun c => by cases c⟩
    · rw [if_neg q, if_neg (nz q (by omega))]
      obtain ⟨m1, b, s1, s2, s3, s4⟩ := c_item ml pm (w := w) (D := D) ha hF ht ct0 r3 r4 r2 cd0
      rw [s1, bI_i, e_X3_reads_48]
      refine itm_c (C := CG ml pm m _) s4 (itm_pure ha hF hw9 ht hD q) (fun q hq _ => ?_) (fun a1 F1 w1 t1 D1 h1 h2 => ?_)
      · rw [hq.1, if_pos (by decide)]
        exact ⟨m1, FrC_t s2 f0, rfl, (fun c => by cases c), fun _ => hq.2⟩
      · have e3 : m1 1 3 = nI i := by rw [s3, r6 3 (by omega)]; exact h3
        rw [h1.1, if_neg (by decide), e3, nI_1]
        have fr : FrC (hw m1 1 3 (nI (i + 1))) m := FrC_t (⟨fun c hc => hw_oo _ _ _ (by omega), fun j hj => hw_k _ _ _ (by omega)⟩ : FrC (hw m1 1 3 (nI (i + 1))) m1) (FrC_t s2 f0)
        obtain ⟨m2, t1, t2, t3, t4⟩ := ih (i + 1) a1 F1 w1 t1 D1 (hw m1 1 3 (nI (i + 1))) (by omega) (by omega) h2.2.1 h2.2.2.1 h2.2.2.2.1 h2.2.2.2.2.1 h2.2.2.2.2.2 (CT_F ct fr) (by rw [hw_k _ _ _ (by omega)]; exact h1.2.1) (hw_c _ _ _ _) (by
          unfold CD
          rw [hw_oo _ _ _ (show 3 ≠ 1 by omega), hw_k _ _ _ (show 4 ≠ 3 by omega), hw_oo _ _ _ (show 4 ≠ 1 by omega), hw_oo _ _ _ (show 5 ≠ 1 by omega), hw_oo _ _ _ (show 6 ≠ 1 by omega)]
          exact h1.2.2)
        exact ⟨m2, FrC_t t1 fr, t2, t3, t4⟩
theorem m_reads : ∀ r i a F w wt D (m : hM), n < a + r → i ≤ a → a ≤ n → F ≤ 7 → w ≤ 9 → wt ≤ 1 → DB F D → m 99 8 = -1 → MT m L n → TI m L n a → MD m F w wt D →
    MG ml pm m (w_X6_meadow_40 (nI i) (hG m ml pm)) (prs L n r i a F w wt D) := by
  intro r
  induction r with
  | zero => intro i a F w wt D m h _ h2; omega
  | succ r ih =>
    intro i a F w wt D m h hi ha hF hw9 ht hD h8 mt ti md
    have hn := mt.1
    have kl := tkd_le L n a
    show MG ml pm m (w_X6_meadow_40 (nI i) (hG m ml pm)) (if tkd L n a = 0 then (true, i, F, w, D) else itm L n a F w wt D (fun q => (false, q, 0, 0, D)) (fun a1 F1 w1 t1 D1 => prs L n r (i + 1) a1 F1 w1 t1 D1))
    by_cases q : tkd L n a = 0
    · rw [if_pos q]
      refine ⟨m, FrM_r m, fun _ => ⟨?_, md.1, md.2.1, md.2.2.2⟩, fun c => by cases c⟩
      rw [e_X6_meadow_40, m_well1 ml pm h8, bI_i, e_X6_meadow_44, if_neg (by decide), ti.2.2.1, if_pos ((kdM_0 kl).mpr q), e_X6_meadow_138, m_well1 ml pm h8, bI_i]
    · rw [if_neg q]
      obtain ⟨m1, s1, s2, s4⟩ := m_item ml pm (i := i) (w := w) (D := D) ha hF ht q h8 mt ti md
      rw [s1]
      have ip := itm_pure ha hF hw9 ht hD q
      refine itm_c (C := MG ml pm m _) s4 ip (fun q hq hb => ?_) (fun a1 F1 w1 t1 D1 h1 h2 => ?_)
      · refine ⟨m1, s2, (fun c => by cases c), fun _ => ?_⟩
        rw [e_X6_meadow_40, m_well0 ml pm hq (by omega), bI_i, e_X6_meadow_44, if_pos rfl, e_X6_meadow_138, m_well0 ml pm hq (by omega), bI_i, e_X6_meadow_142, if_pos rfl, hq]
      · obtain ⟨m2, t1, t2, t3⟩ := ih (i + 1) a1 F1 w1 t1 D1 m1 (by omega) (by omega) h2.2.1 h2.2.2.1 h2.2.2.2.1 h2.2.2.2.2.1 h2.2.2.2.2.2 h1.1 (MT_F mt s2) h1.2.1 h1.2.2
        exact ⟨m2, FrM_t t1 s2, t2, t3⟩
theorem m_set26 : ∀ r i (m m0 : hM), i + r = 7 → (∀ c, c ≠ 102 → c ≠ 103 → c ≠ 104 → m c = m0 c) → (∀ c f, 102 ≤ c → c ≤ 104 → m c f = if f < i then m0 c (7 + f) else m0 c f) → ∃ m1 : hM, w_X6_settles_26 (nI i) (hG m ml pm) = w_X6_settles_85 0 (hG m1 ml pm) ∧ (∀ c, c ≠ 102 → c ≠ 103 → c ≠ 104 → m1 c = m0 c) ∧ ∀ c f, 102 ≤ c → c ≤ 104 → f < 7 → m1 c f = m0 c (7 + f) := by
  intro r
  induction r with
  | zero =>
    intro i m m0 hi h1 h2
    rw [e_X6_settles_26, if_pos (show (7 : Int32) ≤ nI i from yle (a := 7) (by omega) (by omega))]
    exact ⟨m, rfl, h1, fun c f a b hf => by rw [h2 c f a b, if_pos (by omega)]⟩
  | succ r ih =>
    intro i m m0 hi h1 h2
    rw [e_X6_settles_26, if_neg (show ¬ (7 : Int32) ≤ nI i from fun c => absurd ((le_nI (a := 7) (by omega) (by omega)).mp c) (by omega)), lit_nI 7, nI_add, if_pos (in_nI (by omega) (by omega)), if_pos (in_nI (by omega) (by omega)), if_pos (in_nI (by omega) (by omega)), if_pos (in_nI (by omega) (by omega)), if_pos (in_nI (by omega) (by omega)), if_pos (in_nI (by omega) (by omega)), cl_nI (by omega), cl_nI (by omega), nI_1]
    refine ih (i + 1) _ m0 (by omega) (fun c a b d => by rw [hw_oo _ _ _ d, hw_oo _ _ _ b, hw_oo _ _ _ a, h1 c a b d]) (fun c f a b => ?_)
    have e : ∀ x, 102 ≤ x → x ≤ 104 → ∀ M : hM, M x = m x → hw M x i (m x (7 + i)) x f = if f < i + 1 then m0 x (7 + f) else m0 x f := by
      intro x h3 h4 M hM
      by_cases q : f = i
      · rw [q, hw_c, if_pos (by omega), h2 x _ h3 h4, if_neg (by omega)]
      · rw [hw_k _ _ _ q, hM, h2 x f h3 h4]
        by_cases q2 : f < i
        · rw [if_pos q2, if_pos (by omega)]
        · rw [if_neg q2, if_neg (by omega)]
    rcases (show c = 102 ∨ c = 103 ∨ c = 104 by omega) with rfl | rfl | rfl
    · rw [hw_oo _ _ _ (by omega), hw_oo _ _ _ (by omega)]; exact e 102 (by omega) (by omega) m rfl
    · rw [hw_oo _ _ _ (by omega)]; exact e 103 (by omega) (by omega) _ (hw_oo _ _ _ (by omega))
    · exact e 104 (by omega) (by omega) _ (by rw [hw_oo _ _ _ (by omega), hw_oo _ _ _ (by omega)])
theorem m_set85 : ∀ r i (m : hM), i + r = 32 → (∀ j, j < i → m 105 j = nI 0) → ∃ m1 : hM, w_X6_settles_85 (nI i) (hG m ml pm) = some (none, hG (hw (hw (hw (hw (hw m1 99 3 0) 99 21 0) 99 18 0) 107 0 0) 107 1 0) ml pm) ∧ (∀ c, c ≠ 105 → m1 c = m c) ∧ ∀ j, j < 32 → m1 105 j = nI 0 := by
  intro r
  induction r with
  | zero =>
    intro i m hi h
    rw [e_X6_settles_85, if_pos (show (32 : Int32) ≤ nI i from yle (a := 32) (by omega) (by omega))]
    exact ⟨m, rfl, fun _ _ => rfl, fun j hj => h j (by omega)⟩
  | succ r ih =>
    intro i m hi h
    rw [e_X6_settles_85, if_neg (show ¬ (32 : Int32) ≤ nI i from fun c => absurd ((le_nI (a := 32) (by omega) (by omega)).mp c) (by omega)), if_pos (in_nI (by omega) (by omega)), cl_nI (by omega), nI_1]
    obtain ⟨m1, r1, r2, r3⟩ := ih (i + 1) (hw m 105 i 0) (by omega) (fun j hj => by
      by_cases q : j = i
      · rw [q, hw_c]; rfl
      · rw [hw_k _ _ _ q]; exact h j (by omega))
    exact ⟨m1, r1, fun c hc => by rw [r2 c hc, hw_oo _ _ _ hc], r3⟩
theorem c_rst : ∀ r i (m : hM), i + r = 7 → (∀ c f, 12 ≤ c → c ≤ 14 → f < i → m c f = nI 0) → ∃ m1 : hM, w_X0_restart_22 (nI i) (hG m ml pm) = some (none, hG m1 ml pm) ∧ (∀ c, c < 12 ∨ 14 < c → m1 c = m c) ∧ ∀ c f, 12 ≤ c → c ≤ 14 → f < 7 → m1 c f = nI 0 := by
  intro r
  induction r with
  | zero =>
    intro i m hi h
    rw [e_X0_restart_22, if_pos (show (7 : Int32) ≤ nI i from yle (a := 7) (by omega) (by omega))]
    exact ⟨m, rfl, fun _ _ => rfl, fun c f a b hf => h c f a b (by omega)⟩
  | succ r ih =>
    intro i m hi h
    rw [e_X0_restart_22, if_neg (show ¬ (7 : Int32) ≤ nI i from fun c => absurd ((le_nI (a := 7) (by omega) (by omega)).mp c) (by omega)), if_pos (in_nI (by omega) (by omega)), if_pos (in_nI (by omega) (by omega)), if_pos (in_nI (by omega) (by omega)), cl_nI (by omega), nI_1]
    obtain ⟨m1, r1, r2, r3⟩ := ih (i + 1) (hw (hw (hw m 12 i 0) 13 i 0) 14 i 0) (by omega) (fun c f a b hf => by
      have e : ∀ M : hM, (f ≠ i → M c f = m c f) → hw M c i 0 c f = nI 0 := fun M hM => by
        by_cases q : f = i
        · rw [q, hw_c]; rfl
        · rw [hw_k _ _ _ q, hM q]; exact h c f a b (by omega)
      rcases (show c = 12 ∨ c = 13 ∨ c = 14 by omega) with rfl | rfl | rfl
      · rw [hw_oo _ _ _ (by omega), hw_oo _ _ _ (by omega)]; exact e m (fun _ => rfl)
      · rw [hw_oo _ _ _ (by omega)]; exact e _ (fun _ => by rw [hw_oo _ _ _ (by omega)])
      · exact e _ (fun _ => by rw [hw_oo _ _ _ (by omega), hw_oo _ _ _ (by omega)]))
    exact ⟨m1, r1, fun c hc => by rw [r2 c hc, hw_oo _ _ _ (by omega), hw_oo _ _ _ (by omega), hw_oo _ _ _ (by omega)], r3⟩
end K1
theorem Cl_R {mi : hM} {ml : Nat → Nat → Int64} {pm : Nat → Option Nat} {S : pS} {T : Int64} (k : Cl mi ml pm S T) {m1 : hM} (f : FrC m1 mi) : Cl m1 ml pm S T := by
  obtain ⟨t, d, nn, u, kk, e, tr⟩ := k
  have h : ∀ c, 6 < c → m1 c = mi c := fun c hc => f.1 c (by omega)
  exact ⟨ClT_fr (f.2 1 (by omega)) (f.1 2 (by omega)) rfl rfl t, ClD_fr (fun c _ _ => h c (by omega)) rfl rfl rfl rfl rfl d, Cm_fr (fun c _ _ => h c (by omega)) nn, ClU_fr (by rw [f.1 0 (by omega)]) (fun c _ _ => h c (by omega)) rfl (fun i _ => rfl) u, ClK_fr (h 18 (by omega)) (fun c _ _ => h c (by omega)) rfl (fun i _ => rfl) kk, ClE_fr (by rw [f.1 0 (by omega)]) (fun c _ _ => h c (by omega)) rfl e, tr⟩
theorem Ml_R {mi : hM} {ml : Nat → Nat → Int64} {S : pS} {T : Int64} (ok : Ok S) (k : Ml mi ml S T) {m1 : hM} (f : FrM m1 mi) : Ml m1 ml S T := by
  obtain ⟨t, d, nn, u, kk, e, tr⟩ := k
  have F7 := ok.F7
  refine ⟨MlT_fr (f.2.1 3 (by omega)) (f.1 100 (by omega)) rfl rfl t, ⟨by rw [f.2.2.1 0 (by omega)]; exact d.1, by rw [f.2.2.1 1 (by omega)]; exact d.2.1, fun g hg => ?_⟩, ?_, MlU_fr (f.2.1 18 (by omega)) (f.1 108 (by omega)) rfl (fun i _ => rfl) ok.u u, MlK_fr (f.1 107 (by omega)) (f.1 106 (by omega)) rfl (fun i _ => rfl) kk, by rw [f.2.1 21 (by omega)]; exact e, tr⟩
  · obtain ⟨a, b, c⟩ := f.2.2.2 g (by omega)
    rw [a, b, c]; exact d.2.2 g hg
  · unfold Mm; rw [f.1 105 (by omega)]; exact nn
/-- after a meadow -/
def meaS (S : pS) (F w : Nat) (D : pS) : pS := fun r k => if r = 0 then (if k = 1 then F else if k = 2 then w else 0) else if r = 2 ∨ r = 3 ∨ r = 4 then D r k else if r = 5 ∨ r = 6 then 0 else S r k
theorem Ok_mea {S : pS} {F w : Nat} {D : pS} (hF : F ≤ 7) (hw9 : w ≤ 9) (hD : DB F D) : Ok (meaS S F w D) := by
  have e0 : meaS S F w D 0 0 = 0 := rfl
  have e1 : meaS S F w D 0 1 = F := rfl
  have e2 : meaS S F w D 0 2 = w := rfl
  have e3 : meaS S F w D 0 3 = 0 := rfl
  have e4 : meaS S F w D 0 4 = 0 := rfl
  have e5 : ∀ k, meaS S F w D 5 k = 0 := fun _ => rfl
  have e6 : ∀ k, meaS S F w D 6 k = 0 := fun _ => rfl
  have e20 : ∀ k, meaS S F w D 2 k = D 2 k := fun _ => rfl
  have e30 : ∀ k, meaS S F w D 3 k = D 3 k := fun _ => rfl
  have e40 : ∀ k, meaS S F w D 4 k = D 4 k := fun _ => rfl
  refine ⟨⟨by omega, fun k hk => by omega⟩, ⟨by omega, by omega, fun f hf => by rw [e20, e30, e40]; exact hD f (by omega)⟩, ?_, ⟨by omega, fun i hi => by omega⟩, fun i hi => ⟨by rw [e6]; omega, fun c => by rw [e6] at c; omega⟩, by omega⟩
  refine ⟨by rw [e5]; omega, by rw [e5]; omega, by rw [e5]; exact Nat.pow_pos (by omega), fun f hf => by rw [e5, e5]; omega, fun f hf => by rw [e5, e5]; omega, by rw [e5]; omega, fun k hk => by rw [e5] at hk; omega, fun i j hi => by rw [e5] at hi; omega, fun j hj => by rw [e5]; omega⟩
theorem b_meadow {S : pS} (ok : Ok S) (T : Int64) : ∃ v S' T', Both (f_X5_meadow [.ref 0]) (f_X6_meadow [.ref 99]) S T v S' T' := by
  have hn : S 0 0 ≤ 200 := ok.1.1
  have D0 : DB 0 S := fun f hf => by omega
  have po := prs_ok (L := S 1) (n := S 0 0) (S 0 0 + 1) 0 0 0 2 0 S (by omega) (by omega) (by omega) (by omega) (by omega) (by omega) D0
  have CR : ∀ (mi : hM) ml pm, Cl mi ml pm S T → ∃ m1 : hM, FrC m1 mi ∧ f_X3_reads [.ref 1] (hG mi ml pm) = some (some (.int (b01 (prs (S 1) (S 0 0) (S 0 0 + 1) 0 0 0 2 0 S).1)), hG m1 ml pm) ∧ ((prs (S 1) (S 0 0) (S 0 0 + 1) 0 0 0 2 0 S).1 = true → m1 1 3 = nI (prs (S 1) (S 0 0) (S 0 0 + 1) 0 0 0 2 0 S).2.1 ∧ CDf m1 (prs (S 1) (S 0 0) (S 0 0 + 1) 0 0 0 2 0 S).2.2.1 (prs (S 1) (S 0 0) (S 0 0 + 1) 0 0 0 2 0 S).2.2.2.1 (prs (S 1) (S 0 0) (S 0 0 + 1) 0 0 0 2 0 S).2.2.2.2) ∧ ((prs (S 1) (S 0 0) (S 0 0 + 1) 0 0 0 2 0 S).1 = false → m1 1 8 = nI (prs (S 1) (S 0 0) (S 0 0 + 1) 0 0 0 2 0 S).2.1) := by
    intro mi ml pm k
    rw [e_X3_reads, e_X4_restart, bV_v, e_X3_reads_7]
    generalize hm : hw (hw (hw (hw (hw mi 3 0 0) 3 1 2) 1 3 0) 1 4 0) 1 5 0 = m
    have fr : FrC m mi := by
      rw [← hm]
      exact ⟨fun c hc => by rw [hw_oo _ _ _ (by omega), hw_oo _ _ _ (by omega), hw_oo _ _ _ (by omega), hw_oo _ _ _ (by omega), hw_oo _ _ _ (by omega)], fun j hj => by rw [hw_k _ _ _ (by omega), hw_k _ _ _ (by omega), hw_k _ _ _ (by omega), hw_oo _ _ _ (by omega), hw_oo _ _ _ (by omega)]⟩
    have ct : CT m (S 1) (S 0 0) := CT_F ⟨hn, k.1.1, fun j hj => ⟨k.1.2 j hj, ok.1.2 j hj⟩⟩ fr
    obtain ⟨m1, r1, r2, r3, r4⟩ := c_reads ml pm (S 0 0 + 1) 0 0 0 2 0 S m (by omega) (by omega) (by omega) (by omega) (by omega) (by omega) D0 ct (by rw [← hm, hw_c]; rfl) (by rw [← hm, hw_k _ _ _ (by omega), hw_k _ _ _ (by omega), hw_c]; rfl) ⟨by rw [← hm, hw_oo _ _ _ (by omega), hw_oo _ _ _ (by omega), hw_oo _ _ _ (by omega), hw_k _ _ _ (by omega), hw_c]; rfl, by rw [← hm, hw_oo _ _ _ (by omega), hw_oo _ _ _ (by omega), hw_oo _ _ _ (by omega), hw_c]; rfl, by rw [← hm, hw_k _ _ _ (by omega), hw_c]; rfl, fun f hf => by omega⟩
    exact ⟨m1, FrC_t r1 fr, r2, r3, r4⟩
  have MR : ∀ (mi : hM) ml pm, Ml mi ml S T → ∃ m1 : hM, FrM m1 (hw mi 99 0 0) ∧ ((prs (S 1) (S 0 0) (S 0 0 + 1) 0 0 0 2 0 S).1 = true → f_X6_meadow [.ref 99] (hG mi ml pm) = w_X6_meadow_142 (nI (prs (S 1) (S 0 0) (S 0 0 + 1) 0 0 0 2 0 S).2.1) 1 (hG m1 ml pm) ∧ MDf m1 (prs (S 1) (S 0 0) (S 0 0 + 1) 0 0 0 2 0 S).2.2.1 (prs (S 1) (S 0 0) (S 0 0 + 1) 0 0 0 2 0 S).2.2.2.1 (prs (S 1) (S 0 0) (S 0 0 + 1) 0 0 0 2 0 S).2.2.2.2) ∧ ((prs (S 1) (S 0 0) (S 0 0 + 1) 0 0 0 2 0 S).1 = false → f_X6_meadow [.ref 99] (hG mi ml pm) = some (some (.int (-10 - nI (prs (S 1) (S 0 0) (S 0 0 + 1) 0 0 0 2 0 S).2.1)), hG m1 ml pm)) := by
    intro mi ml pm k
    have k' := Ml_th (0 : Int32) k
    rw [e_X6_meadow]
    generalize hw mi 99 0 0 = m' at k' ⊢
    generalize hm : hw (hw (hw (hw (hw m' 99 8 (-1)) 99 4 0) 101 2 0) 101 3 2) 99 13 0 = m
    have fr : FrM m m' := by
      rw [← hm]
      exact FrM_t (fr99 _ _ (by omega)) (FrM_t (fr101 _ _ (by omega)) (FrM_t (fr101 _ _ (by omega)) (FrM_t (fr99 _ _ (by omega)) (fr99 _ _ (by omega)))))
    have mt : MT m (S 1) (S 0 0) := MT_F ⟨hn, k'.1.1, fun j hj => ⟨k'.1.2 j hj, ok.1.2 j hj⟩⟩ fr
    have h8 : m 99 8 = -1 := by rw [← hm, hw_k _ _ _ (by omega), hw_oo _ _ _ (by omega), hw_oo _ _ _ (by omega), hw_k _ _ _ (by omega), hw_c]
    obtain ⟨m0, s1, s2, s3, s4, s5, s6, s7⟩ := m_token ml pm (a := 0) (by omega) mt (by rw [← hm, hw_k _ _ _ (by omega), hw_oo _ _ _ (by omega), hw_oo _ _ _ (by omega), hw_c]; rfl)
    have f0 := FrM_t (frT s6 s7) fr
    rw [s1, bV_v, show (0 : Int32) = nI 0 from rfl]
    obtain ⟨m1, r1, r2, r3⟩ := m_reads ml pm (S 0 0 + 1) 0 0 0 2 0 S m0 (by omega) (by omega) (by omega) (by omega) (by omega) (by omega) D0 (by rw [s6 8 (by omega)]; exact h8) (MT_F mt (frT s6 s7)) ⟨s2, s3, s4, s5⟩ ⟨by rw [s7 101 (by omega), ← hm, hw_oo _ _ _ (by omega), hw_k _ _ _ (by omega), hw_c]; rfl, by rw [s7 101 (by omega), ← hm, hw_oo _ _ _ (by omega), hw_c]; rfl, by rw [s6 13 (by omega), ← hm, hw_c]; rfl, fun f hf => by omega⟩
    exact ⟨m1, FrM_t r1 f0, r2, r3⟩
  generalize prs (S 1) (S 0 0) (S 0 0 + 1) 0 0 0 2 0 S = R at po CR MR
  obtain ⟨b, x, F, w, D⟩ := R
  cases b with
  | false =>
    refine ⟨-10 - nI x, S, T, fun mi ml pm k => ?_, fun mi ml pm k => ?_, ok⟩
    · obtain ⟨m1, r1, r2, r3, r4⟩ := CR mi ml pm k
      have e8 : m1 1 8 = nI x := r4 rfl
      rw [e_X5_meadow, r2, bI_i, e_X5_meadow_7, if_pos (show b01 false = 0 from rfl), e8]
      exact ⟨m1, ml, pm, rfl, Cl_R k r1, fun c hc => r1.1 c (by omega), rfl⟩
    · obtain ⟨m1, r1, r2, r3⟩ := MR mi ml pm k
      rw [r3 rfl]
      exact ⟨m1, ml, rfl, Ml_R ok (Ml_th (0 : Int32) k) r1, fun c hc => by rw [r1.1 c (by omega), ml0 mi 0 c hc], rfl⟩
  | true =>
    obtain ⟨-, hF, hw9, hD⟩ := po.1 rfl
    have hF' : F ≤ 7 := hF
    refine ⟨nI x, meaS S F w D, T, fun mi ml pm k => ?_, fun mi ml pm k => ?_, Ok_mea hF hw9 hD⟩
    · obtain ⟨m1, r1, r2, r3, r4⟩ := CR mi ml pm k
      obtain ⟨i3, d1, d2, d3⟩ := r3 rfl
      have k1 := Cl_R k r1
      rw [e_X5_meadow, r2, bI_i, e_X5_meadow_7, if_neg (show ¬ b01 true = 0 by decide), e_X4_take, bV_v, e_X5_meadow_35, e_X0_restart]
      generalize hmA : hy (hy (hy (hw (hw m1 7 0 (m1 3 0)) 7 1 (m1 3 1)) 4 8 0 0 7) 5 9 0 0 7) 6 10 0 0 7 = mA
      have A7 : mA 7 0 = nI F ∧ mA 7 1 = nI w := by
        rw [← hmA]; refine ⟨?_, ?_⟩
        · simp [hy, hw]; exact d1
        · simp [hy, hw]; exact d2
      have A8 : ∀ f, f < F → mA 8 f = nI (D 2 f) ∧ mA 9 f = nI (D 3 f) ∧ mA 10 f = nI (D 4 f) := by
        intro f hf
        have f7 : f < 7 := by omega
        rw [← hmA]
        refine ⟨?_, ?_, ?_⟩
        · simp [hy, hw, va_cpy, f7]; exact (d3 f hf).1
        · simp [hy, hw, va_cpy, f7]; exact (d3 f hf).2.1
        · simp [hy, hw, va_cpy, f7]; exact (d3 f hf).2.2
      have Ac : ∀ c, c < 7 ∨ 10 < c → mA c = m1 c := by
        intro c hc
        funext j
        rw [← hmA]
        have h7 : ¬ c = 7 := by omega
        have h8 : ¬ c = 8 := by omega
        have h9 : ¬ c = 9 := by omega
        have h10 : ¬ c = 10 := by omega
        simp [hy, hw, h7, h8, h9, h10]
      generalize hmB : hw (hw (hw (hw (hw mA 1 1 0) 11 0 0) 11 1 0) 11 2 0) 11 7 0 = mB
      obtain ⟨mC, s1, s2, s3⟩ := c_rst ml pm 7 0 mB (by omega) (fun c f _ _ hf => by omega)
      rw [show (0 : Int32) = nI 0 from rfl, s1, bV_v, e_X5_meadow_50]
      generalize hmD : hw (hw mC 0 4 0) 0 8 0 = mD
      have fin : w_X5_meadow_62 (nI 0) (hG mD ml pm) = some (some (.int (mD 1 3)), hG (hw (hw mD 18 0 0) 18 1 0) ml pm) := by
        rw [e_X5_meadow_62, if_neg (by decide), if_pos (by decide), nI_1, show Int32.toNatClampNeg (nI 0) = 0 from rfl, e_X5_meadow_62, if_neg (by decide), if_pos (by decide), nI_1, show Int32.toNatClampNeg (nI (0 + 1)) = 1 from rfl, e_X5_meadow_62, if_pos (by decide), hw_oo _ _ _ (by omega), hw_oo _ _ _ (by omega)]
      have cB : ∀ c, c ≠ 1 → c ≠ 11 → mB c = mA c := fun c h1 h2 => by rw [← hmB, hw_oo _ _ _ h2, hw_oo _ _ _ h2, hw_oo _ _ _ h2, hw_oo _ _ _ h2, hw_oo _ _ _ h1]
      have cE : ∀ c, c ≠ 0 → c ≠ 18 → hw (hw mD 18 0 0) 18 1 0 c = mC c := fun c h1 h2 => by rw [hw_oo _ _ _ h2, hw_oo _ _ _ h2, ← hmD, hw_oo _ _ _ h1, hw_oo _ _ _ h1]
      have far : ∀ c, 18 < c → hw (hw mD 18 0 0) 18 1 0 c = m1 c := fun c hc => by rw [cE c (by omega) (by omega), s2 c (by omega), cB c (by omega) (by omega), Ac c (by omega)]
      have e13 : mD 1 3 = nI x := by rw [← hmD, hw_oo _ _ _ (by omega), hw_oo _ _ _ (by omega), s2 1 (by omega), ← hmB, hw_oo _ _ _ (by omega), hw_oo _ _ _ (by omega), hw_oo _ _ _ (by omega), hw_oo _ _ _ (by omega), hw_k _ _ _ (by omega), Ac 1 (by omega)]; exact i3
      rw [show (0 : Int32) = nI 0 from rfl, fin, e13]
      obtain ⟨u1, q, u2, u3, u4⟩ := k1.2.2.2.1
      refine ⟨_, ml, pm, rfl, ⟨⟨?_, fun j hj => absurd hj (Nat.not_lt_zero j)⟩, ⟨?_, ?_, fun f hf => ?_⟩, ⟨⟨?_, ?_, ?_, ?_⟩, fun f hf => ⟨?_, ?_, ?_⟩, fun j hj => absurd hj (Nat.not_lt_zero j)⟩, ⟨?_, q, u2, u3, fun j hj => absurd hj (Nat.not_lt_zero j)⟩, fun j hj => ⟨?_, fun c => absurd c (show ¬ (0 : Nat) = 1 by omega)⟩, ⟨?_, fun j hj => ?_⟩, k1.2.2.2.2.2.2⟩, fun c hc => by rw [far c (by omega), r1.1 c (by omega)], rfl⟩
      · rw [cE 1 (by omega) (by omega), s2 1 (by omega), ← hmB, hw_oo _ _ _ (by omega), hw_oo _ _ _ (by omega), hw_oo _ _ _ (by omega), hw_oo _ _ _ (by omega), hw_c]; rfl
      · rw [cE 7 (by omega) (by omega), s2 7 (by omega), cB 7 (by omega) (by omega)]; exact A7.1
      · rw [cE 7 (by omega) (by omega), s2 7 (by omega), cB 7 (by omega) (by omega)]; exact A7.2
      · rw [cE 8 (by omega) (by omega), s2 8 (by omega), cB 8 (by omega) (by omega), cE 9 (by omega) (by omega), s2 9 (by omega), cB 9 (by omega) (by omega), cE 10 (by omega) (by omega), s2 10 (by omega), cB 10 (by omega) (by omega)]; exact A8 f hf
      · rw [cE 11 (by omega) (by omega), s2 11 (by omega), ← hmB, hw_k _ _ _ (by omega), hw_k _ _ _ (by omega), hw_k _ _ _ (by omega), hw_c]; rfl
      · rw [cE 11 (by omega) (by omega), s2 11 (by omega), ← hmB, hw_k _ _ _ (by omega), hw_k _ _ _ (by omega), hw_c]; rfl
      · rw [cE 11 (by omega) (by omega), s2 11 (by omega), ← hmB, hw_k _ _ _ (by omega), hw_c]; rfl
      · rw [cE 11 (by omega) (by omega), s2 11 (by omega), ← hmB, hw_c]; rfl
      · rw [cE _ (by omega) (by omega)]; exact s3 12 f (by omega) (by omega) hf
      · rw [cE _ (by omega) (by omega)]; exact s3 13 f (by omega) (by omega) hf
      · rw [cE _ (by omega) (by omega)]; exact s3 14 f (by omega) (by omega) hf
      · rw [hw_oo _ _ _ (by omega), hw_oo _ _ _ (by omega), ← hmD, hw_k _ _ _ (by omega), hw_c]; rfl
      · rcases (show j = 0 ∨ j = 1 by omega) with rfl | rfl
        · rw [hw_k _ _ _ (by omega), hw_c]; rfl
        · rw [hw_c]; rfl
      · rw [hw_oo _ _ _ (by omega), hw_oo _ _ _ (by omega), ← hmD, hw_c]; rfl
      · rw [far _ (by omega)]; exact k1.2.2.2.2.2.1.2 j hj
    · obtain ⟨m1, r1, r2, r3⟩ := MR mi ml pm k
      obtain ⟨e1, d1, d2, d3⟩ := r2 rfl
      have k1 := Ml_R ok (Ml_th (0 : Int32) k) r1
      rw [e1, e_X6_meadow_142, if_neg (by decide), e_X6_settles]
      generalize hmA : hw (hw m1 101 0 (m1 101 2)) 101 1 (m1 101 3) = mA
      have cA : ∀ c, c ≠ 101 → mA c = m1 c := fun c h => by rw [← hmA, hw_oo _ _ _ h, hw_oo _ _ _ h]
      obtain ⟨mB, s1, s2, s3⟩ := m_set26 ml pm 7 0 mA mA (by omega) (fun _ _ _ _ => rfl) (fun c f _ _ => by rw [if_neg (by omega)])
      obtain ⟨mC, t1, t2, t3⟩ := m_set85 ml pm 32 0 mB (by omega) (fun j hj => by omega)
      rw [show (0 : Int32) = nI 0 from rfl, s1, show (0 : Int32) = nI 0 from rfl, t1, bV_v, e_X6_meadow_157]
      generalize hmD : hw (hw (hw (hw (hw mC 99 3 0) 99 21 0) 99 18 0) 107 0 0) 107 1 0 = mD
      have cD : ∀ c, c ≠ 99 → c ≠ 107 → mD c = mC c := fun c h1 h2 => by rw [← hmD, hw_oo _ _ _ h2, hw_oo _ _ _ h2, hw_oo _ _ _ h1, hw_oo _ _ _ h1, hw_oo _ _ _ h1]
      have e101 : mD 101 = mA 101 := by rw [cD 101 (by omega) (by omega), t2 101 (by omega), s2 101 (by omega) (by omega) (by omega)]
      have e10x : ∀ c f, 102 ≤ c → c ≤ 104 → f < 7 → mD c f = m1 c (7 + f) := fun c f a b hf => by rw [cD c (by omega) (by omega), t2 c (by omega), s3 c f a b hf, cA c (by omega)]
      refine ⟨_, ml, rfl, ⟨⟨?_, fun j hj => absurd hj (Nat.not_lt_zero j)⟩, ⟨?_, ?_, fun f hf => ?_⟩, ?_, ⟨?_, fun j hj => absurd hj (Nat.not_lt_zero j)⟩, fun j hj => ⟨?_, fun c => absurd c (show ¬ (0 : Nat) = 1 by omega)⟩, ?_, k1.2.2.2.2.2.2⟩, fun c hc => by rw [cD c (by omega) (by omega), t2 c (by omega), s2 c (by omega) (by omega) (by omega), cA c (by omega), r1.1 c (by omega), ml0 mi 0 c hc], rfl⟩
      · rw [← hmD, hw_oo _ _ _ (by omega), hw_oo _ _ _ (by omega), hw_k _ _ _ (by omega), hw_k _ _ _ (by omega), hw_c]; rfl
      · rw [e101, ← hmA, hw_k _ _ _ (by omega), hw_c]; exact d1
      · rw [e101, ← hmA, hw_c]; exact d2
      · have hf' : f < F := hf
        rw [e10x 102 f (by omega) (by omega) (by omega), e10x 103 f (by omega) (by omega) (by omega), e10x 104 f (by omega) (by omega) (by omega)]; exact d3 f hf
      · intro j hj
        rw [cD 105 (by omega) (by omega), Nat.zero_add, t3 j hj]; rfl
      · rw [← hmD, hw_oo _ _ _ (by omega), hw_oo _ _ _ (by omega), hw_c]; rfl
      · rcases (show j = 0 ∨ j = 1 by omega) with rfl | rfl
        · rw [← hmD, hw_k _ _ _ (by omega), hw_c]; rfl
        · rw [← hmD, hw_c]; rfl
      · rw [← hmD, hw_oo _ _ _ (by omega), hw_oo _ _ _ (by omega), hw_k _ _ _ (by omega), hw_c]; rfl
