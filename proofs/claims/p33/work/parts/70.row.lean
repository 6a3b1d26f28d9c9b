/-! the model's way to the first row -/
/-- a line of the model -/
def Lin (S : pS) (m : hM) (sz : Nat) (l : Nat → Nat) : Prop := ∀ j, j < sz → m 112 j = nI (l j) ∧ l j < S 0 1
def StS (S : pS) (v n sz : Nat) (l : Nat → Nat) (t : Int32) : Prop := (t = -9 ∧ Val S v n sz l) ∨ ∃ p, t = nI p ∧ p < sz ∧ ∀ r, Val S v n sz r → ¬ ∀ j, j ≤ p → r j = l j
section H1
variable {S : pS} {ml : Nat → Nat → Int64} {pm : Nat → Option Nat} {T : Int64}
theorem m_stops (ok : Ok S) {m : hM} (km : Ml m ml S T) {v n sz : Nat} (hv : v ≤ 99) (hn : n ≤ 1000) (h7 : sz ≤ 7) (h1 : 1 ≤ sz) {l : Nat → Nat} (ln : Lin S m sz l) : ∃ t, f_X6_stops [.ref 99, .int (nI sz), .int (nI n), .int (nI v)] (hG m ml pm) = some (some (.int t), hG m ml pm) ∧ StS S v n sz l t := by
  have F7 := ok.F7
  have key : ∀ d k, k + d = sz → Row (S 5 2) (Bv S v) k l → ∃ t, w_X6_stops_9 (nI sz) (nI n) (nI v) (nI (sV (Bv S v) l k)) (nI (setN l k)) (nI k) (hG m ml pm) = some (some (.int t), hG m ml pm) ∧ StS S v n sz l t := by
    intro d
    induction d with
    | zero =>
      intro k hk row
      have ek : k = sz := by omega
      subst ek
      obtain ⟨a1, a2⟩ := ln (k - 1) (by omega)
      have wb : sW (Bv S v) (S 3) l k ≤ 210 := by
        have := (W_b ok (k := k - 1) (by rw [show k - 1 + 1 = k by omega]; exact row)).1
        rwa [show k - 1 + 1 = k by omega] at this
      rw [e_X6_stops_9, if_pos (Int32.le_refl _), show nI k - 1 = nI (k - 1) from pk_sub (b := 1) (by omega), if_pos (in_nI (by omega) (by omega)), cl_nI (by omega), a1, if_pos (in_nI (by omega) (by omega)), cl_nI (by omega), m_st km _ a2, nI_add]
      change ∃ t, (if nI (sW (Bv S v) (S 3) l k) < nI n then _ else _) = _ ∧ _
      by_cases q : sW (Bv S v) (S 3) l k < n
      · rw [if_pos (ylt q (by omega))]
        refine ⟨_, rfl, Or.inr ⟨k - 1, rfl, by omega, fun r hr he => ?_⟩⟩
        have := sW_e (B := Bv S v) (st := S 3) (r := l) (r' := r) (k := k) (by omega) (fun i hi => he i (by omega))
        have := hr.2
        omega
      · rw [if_neg (nlt (by omega) (by omega))]
        exact ⟨_, rfl, Or.inl ⟨rfl, row, by omega⟩⟩
    | succ d ih =>
      intro k hk row
      obtain ⟨a1, a2⟩ := ln k (by omega)
      have sb : setN l k < 128 := setN_b (fun i hi => by have := (ln i (by omega)).2; omega)
      rw [e_X6_stops_9, if_neg (nle (by omega) (by omega)), if_pos (in_nI (by omega) (by omega))]
      have rest : ∀ x : Int32, (x = if k = 0 then 0 else if Bv S v (l (k - 1)) (l k) = 0 then -9 else nI (Bv S v (l (k - 1)) (l k))) → ∃ t, w_X6_stops_54 (nI sz) (nI n) (nI v) (nI (sV (Bv S v) l k)) (nI (setN l k)) (nI k) (nI (l k)) x (hG m ml pm) = some (some (.int t), hG m ml pm) ∧ StS S v n sz l t := by
        intro x hx
        have bad : ¬ Row (S 5 2) (Bv S v) (k + 1) l → StS S v n sz l (nI k) := fun hb => Or.inr ⟨k, rfl, by omega, fun r hr he => hb (Row_e (Row_le hr.1 (by omega)) (fun i hi => (he i (by omega)).symm))⟩
        rw [e_X6_stops_54]
        by_cases b1 : (setN l k).testBit (l k) = true
        · rw [if_pos ((bit_1 sb (by omega)).mpr b1)]
          refine ⟨_, rfl, bad (fun rw' => ?_)⟩
          obtain ⟨i, hi, e⟩ := (setN_S l k (l k)).mp b1
          have := rw'.2.1 i k (by omega) (by omega) e; omega
        · rw [if_neg (fun c => b1 ((bit_1 sb (by omega)).mp c)), m_isPicked km ok (by omega), bI_i, e_X6_stops_73]
          cases hp : (S 5 2).testBit (l k) with
          | false =>
            rw [if_pos (by decide)]
            refine ⟨_, rfl, bad (fun rw' => ?_)⟩
            have := rw'.1 k (by omega); rw [hp] at this; cases this
          | true =>
            rw [if_neg (by decide)]
            have good : (k = 0 ∨ 0 < Bv S v (l (k - 1)) (l k)) → Row (S 5 2) (Bv S v) (k + 1) l := by
              intro hb
              refine ⟨fun i hi => ?_, fun i j hi hj e => ?_, fun i hi => ?_⟩
              · by_cases c : i = k
                · rw [c]; exact hp
                · exact row.1 i (by omega)
              · by_cases c : i = k <;> by_cases c' : j = k
                · omega
                · exact absurd ((setN_S l k (l k)).mpr ⟨j, by omega, by rw [← e, c]⟩) b1
                · exact absurd ((setN_S l k (l k)).mpr ⟨i, by omega, by rw [e, c']⟩) b1
                · exact row.2.1 i j (by omega) (by omega) e
              · by_cases c : i + 1 = k
                · rcases hb with hb | hb
                  · omega
                  · rw [show i = k - 1 by omega, show k - 1 + 1 = k by omega]; exact hb
                · exact row.2.2 i (by omega)
            have orr : nI (setN l k) ||| ((1 : Int32) <<< (nI (l k) &&& 31)) = nI (setN l (k + 1)) := or_t _ sb _ (by omega)
            by_cases z : k = 0
            · rw [if_pos z] at hx
              rw [hx, if_neg (by decide), orr, nI_1, Int32.add_zero]
              have := ih (k + 1) (by omega) (good (Or.inl z))
              rw [z] at this ⊢
              exact this
            · rw [if_neg z] at hx
              by_cases c : Bv S v (l (k - 1)) (l k) = 0
              · rw [if_pos c] at hx
                rw [hx, if_pos rfl]
                refine ⟨_, rfl, bad (fun rw' => ?_)⟩
                have := rw'.2.2 (k - 1) (by omega)
                rw [show k - 1 + 1 = k by omega] at this; omega
              · rw [if_neg c] at hx
                have Bb := ok.Bb (v := v) (f := l (k - 1)) (g := l k) (ln (k - 1) (by omega)).2
                rw [hx, if_neg (n9 (by omega)), orr, nI_1, nI_add]
                have es : sV (Bv S v) l (k + 1) = sV (Bv S v) l k + Bv S v (l (k - 1)) (l k) := by
                  obtain ⟨i', e⟩ : ∃ i', k = i' + 1 := ⟨k - 1, by omega⟩
                  rw [e]; exact sV_s
                rw [← es]
                exact ih (k + 1) (by omega) (good (Or.inr (by omega)))
      by_cases z : k = 0
      · rw [if_pos (show nI k = 0 by rw [z]; rfl), cl_nI (by omega), a1]
        exact rest 0 (by rw [if_pos z])
      · obtain ⟨p1, p2⟩ := ln (k - 1) (by omega)
        have tb := (ok.th a2).2
        rw [if_neg (nz z (by omega)), show nI k - 1 = nI (k - 1) from pk_sub (b := 1) (by omega), if_pos (in_nI (by omega) (by omega)), cl_nI (by omega), cl_nI (by omega), a1, p1, if_pos (in_nI (by omega) (by omega)), cl_nI (by omega), m_th km _ a2, m_bestPlace km ok p2 tb hv, bI_i]
        exact rest _ (by rw [if_neg z]; rfl)
  rw [e_X6_stops]
  exact key sz 0 (by omega) ⟨fun i hi => by omega, fun i j hi => by omega, fun i hi => by omega⟩
/-- not behind the row q -/
def LeQ (sz : Nat) (l q : Nat → Nat) : Prop := (∃ i, i < sz ∧ (∀ j, j < i → l j = q j) ∧ l i < q i) ∨ ∀ j, j < sz → l j = q j
def rk (l : Nat → Nat) : Nat → Nat
  | 0 => 0
  | k + 1 => rk l k * 8 + l k
theorem rk_b {l : Nat → Nat} {k : Nat} (h : ∀ j, j < k → l j < 8) : rk l k < 8 ^ k := by
  induction k with
  | zero => exact (by decide : (0 : Nat) < 8 ^ 0)
  | succ k ih =>
    have h1 := ih (fun j hj => h j (by omega))
    have h2 := h k (by omega)
    show rk l k * 8 + l k < 8 ^ (k + 1)
    rw [Nat.pow_succ]; omega
theorem rk_e {l l' : Nat → Nat} {k : Nat} (h : ∀ j, j < k → l' j = l j) : rk l' k = rk l k := by
  induction k with
  | zero => rfl
  | succ k ih =>
    show rk l' k * 8 + l' k = rk l k * 8 + l k
    rw [ih (fun j hj => h j (by omega)), h k (by omega)]
theorem rk_lt {l l' : Nat → Nat} {i sz : Nat} (hi : i < sz) (h : ∀ j, j < i → l' j = l j) (h2 : l' i = l i + 1) (hl : ∀ j, j < sz → l j < 8) : rk l sz < rk l' sz := by
  have key : ∀ k, i < k → k ≤ sz → rk l k < rk l' k := by
    intro k
    induction k with
    | zero => intro c; omega
    | succ k ih =>
      intro h3 h4
      show rk l k * 8 + l k < rk l' k * 8 + l' k
      by_cases e : i = k
      · subst e
        rw [rk_e h, h2]; omega
      · have h5 := ih (by omega) (by omega)
        have h6 := hl k (by omega)
        omega
  exact key sz hi (Nat.le_refl _)
/-- the line that is counted up at the place i -/
def nxl (l : Nat → Nat) (i : Nat) : Nat → Nat := fun j => if j < i then l j else if j = i then l i + 1 else 0
theorem nxl_q {l q : Nat → Nat} {i i' sz : Nat} (hi : i ≤ i') (hs : i' < sz) (h1 : ∀ j, j < i → l j = q j) (h2 : l i < q i) : LeQ sz (nxl l i') q := by
  have e0 : ∀ j, j < i' → nxl l i' j = l j := fun j hj => by unfold nxl; rw [if_pos hj]
  have e1 : nxl l i' i' = l i' + 1 := by unfold nxl; rw [if_neg (by omega), if_pos rfl]
  have e2 : ∀ j, i' < j → nxl l i' j = 0 := fun j hj => by unfold nxl; rw [if_neg (by omega), if_neg (by omega)]
  by_cases c : i' = i
  · subst c
    by_cases d : l i' + 1 < q i'
    · exact Or.inl ⟨i', hs, fun j hj => by rw [e0 j hj]; exact h1 j hj, by rw [e1]; exact d⟩
    · have eq : l i' + 1 = q i' := by omega
      rcases first_or (fun j => i' < j ∧ q j ≠ 0) sz with z | ⟨j, hj, ⟨z1, z2⟩, z3⟩
      · refine Or.inr (fun j hj => ?_)
        rcases Nat.lt_trichotomy j i' with a | a | a
        · rw [e0 j a]; exact h1 j a
        · rw [a, e1]; exact eq
        · rw [e2 j a]
          have h9 := z j hj
          rcases Nat.eq_zero_or_pos (q j) with b | b
          · exact b.symm
          · exact absurd ⟨a, by omega⟩ h9
      · refine Or.inl ⟨j, hj, fun j' hj' => ?_, by rw [e2 j z1]; omega⟩
        rcases Nat.lt_trichotomy j' i' with a | a | a
        · rw [e0 j' a]; exact h1 j' a
        · rw [a, e1]; exact eq
        · rw [e2 j' a]
          have h9 := z3 j' hj'
          rcases Nat.eq_zero_or_pos (q j') with b | b
          · exact b.symm
          · exact absurd ⟨a, by omega⟩ h9
  · exact Or.inl ⟨i, by omega, fun j hj => by rw [e0 j (by omega)]; exact h1 j hj, by rw [e0 i (by omega)]; exact h2⟩
theorem m_zero (n v a3 : Int32) {sz at' : Nat} (h7 : sz ≤ 7) : ∀ d e (m : hM), e + d = sz → ∃ m1 : hM, w_X6_row_97 n v a3 (nI sz) (nI at') (nI e) (hG m ml pm) = w_X6_row_118 n v a3 (nI sz) (nI at') (nI sz) (hG m1 ml pm) ∧ (∀ c, c ≠ 112 → m1 c = m c) ∧ (∀ j, j < e → m1 112 j = m 112 j) ∧ ∀ j, e ≤ j → j < sz → m1 112 j = nI 0 := by
  intro d
  induction d with
  | zero =>
    intro e m he
    rw [e_X6_row_97, if_pos (yle (by omega) (by omega))]
    refine ⟨m, ?_, fun _ _ => rfl, fun _ _ => rfl, fun j a b => by omega⟩
    rw [show e = sz by omega]
  | succ d ih =>
    intro e m he
    rw [e_X6_row_97, if_neg (nle (by omega) (by omega)), if_pos (in_nI (by omega) (by omega)), cl_nI (by omega), nI_1]
    obtain ⟨m1, r1, r2, r3, r4⟩ := ih (e + 1) (hw m 112 e 0) (by omega)
    refine ⟨m1, r1, fun c hc => by rw [r2 c hc, hw_oo _ _ _ hc], fun j hj => by rw [r3 j (by omega), hw_k _ _ _ (by omega)], fun j a b => ?_⟩
    by_cases c : j = e
    · rw [c, r3 e (by omega), hw_c]; rfl
    · exact r4 j (by omega) b
theorem m_carry (ok : Ok S) (n v a3 a6 : Int32) {sz i : Nat} {l : Nat → Nat} (h7 : sz ≤ 7) (hi : i < sz) (hli : l i + 1 < S 0 1) : ∀ d at' (m : hM), Ml m ml S T → at' = i + d → at' < sz → (∀ j, j ≤ at' → m 112 j = nI (l j) ∧ l j < S 0 1) → (∀ j, at' < j → j < sz → m 112 j = nI 0) → ∃ (m1 : hM) (i' : Nat), w_X6_row_118 n v a3 (nI sz) (nI at') a6 (hG m ml pm) = bI (f_X6_stops [.ref 99, .int (nI sz), .int n, .int v] (hG m1 ml pm)) (fun x1 g2 => w_X6_row_169 n v a3 (nI sz) (nI i') a6 x1 g2) ∧ i ≤ i' ∧ i' < sz ∧ (∀ c, c ≠ 112 → m1 c = m c) ∧ (∀ j, j < sz → m1 112 j = nI (nxl l i' j)) ∧ l i' + 1 < S 0 1 ∧ ∀ j, j < i' → l j < S 0 1 := by
  have F7 := ok.F7
  intro d
  induction d with
  | zero =>
    intro at' m km e hs hl hz
    obtain ⟨a1, a2⟩ := hl at' (Nat.le_refl _)
    have ea : at' = i := by omega
    rw [e_X6_row_118, if_pos (in_nI (by omega) (by omega)), if_pos (in_nI (by omega) (by omega)), if_pos (in_nI (by omega) (by omega)), if_pos (in_nI (by omega) (by omega)), cl_nI (by omega), a1, m_F km, lit_nI 1, if_neg (fun c => by have := (nm1_eq (by omega) (by omega)).mp c; rw [ea] at this; omega), nI_add]
    refine ⟨_, at', rfl, by omega, hs, fun c hc => hw_oo _ _ _ hc, fun j hj => ?_, by rw [ea]; exact hli, fun j hj => (hl j (by omega)).2⟩
    unfold nxl
    rcases Nat.lt_trichotomy j at' with b | b | b
    · rw [if_pos b, hw_k _ _ _ (by omega)]; exact (hl j (by omega)).1
    · rw [if_neg (by omega), if_pos b, b, hw_c]
    · rw [if_neg (by omega), if_neg (by omega), hw_k _ _ _ (by omega)]; exact hz j b hj
  | succ d ih =>
    intro at' m km e hs hl hz
    obtain ⟨a1, a2⟩ := hl at' (Nat.le_refl _)
    rw [e_X6_row_118, if_pos (in_nI (by omega) (by omega)), if_pos (in_nI (by omega) (by omega)), if_pos (in_nI (by omega) (by omega)), if_pos (in_nI (by omega) (by omega)), cl_nI (by omega), a1, m_F km, lit_nI 1]
    by_cases c : l at' + 1 = S 0 1
    · rw [if_pos ((nm1_eq (by omega) (by omega)).mpr c), show nI at' + -nI 1 = nI (at' - 1) from by rw [show nI at' + -nI 1 = nI at' + (-1 : Int32) from rfl, nm_a]; exact pk_sub (b := 1) (by omega)]
      obtain ⟨m1, i', r1, r2, r3, r4, r5, r6, r7⟩ := ih (at' - 1) (hw m 112 at' 0) (Ml_fx km (fun c _ h => hw_oo _ _ _ h)) (by omega) (by omega) (fun j hj => by rw [hw_k _ _ _ (by omega)]; exact hl j (by omega)) (fun j h1 h2 => by
        by_cases b : j = at'
        · rw [b, hw_c]; rfl
        · rw [hw_k _ _ _ b]; exact hz j (by omega) h2)
      exact ⟨m1, i', r1, r2, r3, fun c hc => by rw [r4 c hc, hw_oo _ _ _ hc], r5, r6, r7⟩
    · rw [if_neg (fun x => c ((nm1_eq (by omega) (by omega)).mp x)), nI_add]
      refine ⟨_, at', rfl, by omega, hs, fun c hc => hw_oo _ _ _ hc, fun j hj => ?_, by omega, fun j hj => (hl j (by omega)).2⟩
      unfold nxl
      rcases Nat.lt_trichotomy j at' with b | b | b
      · rw [if_pos b, hw_k _ _ _ (by omega)]; exact (hl j (by omega)).1
      · rw [if_neg (by omega), if_pos b, b, hw_c]
      · rw [if_neg (by omega), if_neg (by omega), hw_k _ _ _ (by omega)]; exact hz j b hj
theorem m_84 (ok : Ok S) {v n sz : Nat} {q : Nat → Nat} (hv : v ≤ 99) (hn : n ≤ 1000) (h7 : sz ≤ 7) (h1 : 1 ≤ sz) (gq : Gq S v n sz q) (a3 : Int32) (w : Int32) (hw1 : nI sz ≤ a3 → w = -5) (hw2 : ¬ nI sz ≤ a3 → ∃ k, k < sz ∧ a3 = nI k ∧ w = nI (q k)) : ∀ fuel l (m : hM), Ml m ml S T → 8 ^ sz ≤ rk l sz + fuel → LeQ sz l q → Lin S m sz l → ∀ t, StS S v n sz l t → ∃ m1 : hM, w_X6_row_84 (nI n) (nI v) a3 (nI sz) t (hG m ml pm) = some (some (.int w), hG m1 ml pm) ∧ ∀ c, c ≠ 112 → m1 c = m c := by
  have F7 := ok.F7
  intro fuel
  induction fuel with
  | zero =>
    intro l m km hf lq ln t st
    have := rk_b (l := l) (k := sz) (fun j hj => by have := (ln j hj).2; omega)
    omega
  | succ fuel ih =>
    intro l m km hf lq ln t st
    rw [e_X6_row_84]
    rcases st with ⟨e, vl⟩ | ⟨p, e, hp, hno⟩
    · rw [if_pos e]
      have le : ∀ j, j < sz → l j = q j := by
        rcases lq with ⟨i, hi, a1, a2⟩ | h
        · have := gq.2 i hi l vl a1; omega
        · exact h
      by_cases c : nI sz ≤ a3
      · rw [if_pos c, hw1 c]; exact ⟨m, rfl, fun _ _ => rfl⟩
      · obtain ⟨k, hk, e3, ew⟩ := hw2 c
        rw [if_neg c, e3, if_pos (in_nI (by omega) (by omega)), cl_nI (by omega), (ln k hk).1, le k hk, ew]
        exact ⟨m, rfl, fun _ _ => rfl⟩
    · rw [e, if_neg (n9 (by omega)), nI_1]
      have dif : ∃ i, i ≤ p ∧ (∀ j, j < i → l j = q j) ∧ l i < q i := by
        rcases lq with ⟨i, hi, a1, a2⟩ | h
        · rcases Nat.lt_or_ge p i with z | z
          · exact absurd (fun j hj => (a1 j (by omega)).symm) (hno q gq.1)
          · exact ⟨i, z, a1, a2⟩
        · exact absurd (fun j hj => (h j (by omega)).symm) (hno q gq.1)
      obtain ⟨i, hi, a1, a2⟩ := dif
      have qi : q i < S 0 1 := ok.pF (gq.1.1.1 i (by omega))
      obtain ⟨m2, r1, r2, r3, r4⟩ := m_zero (ml := ml) (pm := pm) (nI n) (nI v) a3 (at' := p) h7 (sz - (p + 1)) (p + 1) m (by omega)
      have km2 : Ml m2 ml S T := Ml_fx km (fun c _ h => r2 c h)
      obtain ⟨m3, i', s1, s2, s3, s4, s5, s6, s7⟩ := m_carry (ml := ml) (pm := pm) (T := T) ok (nI n) (nI v) a3 (nI sz) (i := i) (l := l) h7 (by omega) (by omega) (p - i) p m2 km2 (by omega) hp (fun j hj => by rw [r3 j (by omega)]; exact ln j (by omega)) (fun j b1 b2 => r4 j (by omega) b2)
      have km3 : Ml m3 ml S T := Ml_fx km2 (fun c _ h => s4 c h)
      have ln3 : Lin S m3 sz (nxl l i') := by
        intro j hj
        refine ⟨s5 j hj, ?_⟩
        unfold nxl
        split
        · exact s7 j (by omega)
        · split
          · exact s6
          · omega
      obtain ⟨t', u1, u2⟩ := m_stops (pm := pm) ok km3 hv hn h7 h1 ln3
      have rl := rk_lt (l := l) (l' := nxl l i') s3 (fun j hj => by unfold nxl; rw [if_pos hj]) (by unfold nxl; rw [if_neg (by omega), if_pos rfl]) (fun j hj => by have := (ln j hj).2; omega)
      obtain ⟨m4, w1, w2⟩ := ih (nxl l i') m3 km3 (by omega) (nxl_q s2 s3 a1 a2) ln3 t' u2
      refine ⟨m4, ?_, fun c hc => by rw [w2 c hc, s4 c hc, r2 c hc]⟩
      rw [r1, s1, u1, bI_i, e_X6_row_169, w1]
theorem m_row53 (n v a3 : Int32) {sz : Nat} (h7 : sz ≤ 7) : ∀ d e (m : hM), e + d = sz → (∀ j, j < e → m 112 j = nI 0) → ∃ m1 : hM, w_X6_row_53 n v a3 (nI sz) (nI e) (hG m ml pm) = bI (f_X6_stops [.ref 99, .int (nI sz), .int n, .int v] (hG m1 ml pm)) (fun x1 g2 => w_X6_row_82 n v a3 (nI sz) (nI sz) x1 g2) ∧ (∀ c, c ≠ 112 → m1 c = m c) ∧ ∀ j, j < sz → m1 112 j = nI 0 := by
  intro d
  induction d with
  | zero =>
    intro e m he hz
    rw [e_X6_row_53, if_pos (yle (by omega) (by omega)), show e = sz by omega]
    exact ⟨m, rfl, fun _ _ => rfl, fun j hj => hz j (by omega)⟩
  | succ d ih =>
    intro e m he hz
    rw [e_X6_row_53, if_neg (nle (by omega) (by omega)), if_pos (in_nI (by omega) (by omega)), cl_nI (by omega), nI_1]
    obtain ⟨m1, r1, r2, r3⟩ := ih (e + 1) (hw m 112 e 0) (by omega) (fun j hj => by
      by_cases c : j = e
      · rw [c, hw_c]; rfl
      · rw [hw_k _ _ _ c]; exact hz j (by omega))
    exact ⟨m1, r1, fun c hc => by rw [r2 c hc, hw_oo _ _ _ hc], r3⟩
end H1
theorem b_row {S : pS} (ok : Ok S) (T : Int64) (a b c : Int32) : ∃ v S' T', Both (f_X5_row [.ref 0, .int a, .int b, .int c]) (f_X6_row [.ref 99, .int a, .int b, .int c]) S T v S' T' := by
  have F7 := ok.F7
  by_cases h : wi3 a 1 300 = 0
  · refine ⟨-1, S, T, Both_q ok (fun mi ml pm k => ?_) (fun mi ml pm k => ?_)⟩
    · rw [e_X5_row, x5_isWithin, bI_i, e_X5_row_8, if_pos h]
    · rw [e_X6_row, x6_in, bI_i, e_X6_row_13, if_pos h]
  by_cases h2 : wi3 b 0 99 = 0
  · refine ⟨-1, S, T, Both_q ok (fun mi ml pm k => ?_) (fun mi ml pm k => ?_)⟩
    · rw [e_X5_row, x5_isWithin, bI_i, e_X5_row_8, if_neg h, x5_isHold, bI_i, e_X5_row_15, if_pos h2]
    · rw [e_X6_row, x6_in, bI_i, e_X6_row_13, if_neg h, x6_in, bI_i, e_X6_row_23, if_pos h2]
  by_cases h3 : (0 : Int32) ≤ c
  case neg =>
    refine ⟨-1, S, T, Both_q ok (fun mi ml pm k => ?_) (fun mi ml pm k => ?_)⟩
    · rw [e_X5_row, x5_isWithin, bI_i, e_X5_row_8, if_neg h, x5_isHold, bI_i, e_X5_row_15, if_neg h2, if_neg h3]
    · rw [e_X6_row, x6_in, bI_i, e_X6_row_13, if_neg h, x6_in, bI_i, e_X6_row_23, if_neg h2, if_neg h3]
  case pos =>
    obtain ⟨n, n1, n2, rfl⟩ := nat_of (b := 1) (n := 300) (by omega) h (by omega)
    obtain ⟨v, -, hv, rfl⟩ := nat_of (b := 0) (n := 99) (by omega) h2 (by omega)
    rcases first_or (fun k => Has S v n (k + 1)) 7 with q | ⟨j, hj, q1, q2⟩
    · refine ⟨-9, S, T, fun mi ml pm k => ?_, fun mi ml pm k => ?_, ok⟩
      · obtain ⟨m1, r1, r2, r3⟩ := c_prepare k ok hv
        rw [e_X5_row, x5_isWithin, bI_i, e_X5_row_8, if_neg h, x5_isHold, bI_i, e_X5_row_15, if_neg h2, if_pos h3, r1, bV_v, e_X5_row_40, (c_fewest ok r3.2.2 (by omega) n1).1 q, bI_i, e_X5_row_48, if_pos rfl]
        exact ⟨m1, ml, pm, rfl, Cl_fx k (fun c hc => r2 c (by omega)), fun c hc => r2 c (by omega), rfl⟩
      · have km := Ml_th (0 : Int32) k
        obtain ⟨m1, r1, r2, r3⟩ := m_fewestOf (pm := pm) ok hv n1 (by omega) km
        rw [e_X6_row, x6_in, bI_i, e_X6_row_13, if_neg h, x6_in, bI_i, e_X6_row_23, if_neg h2, if_pos h3, r3.1 q, bI_i, e_X6_row_38, if_pos rfl]
        exact ⟨m1, ml, rfl, Ml_fx km (fun c h _ => r1 c h), fun c hc => by rw [r1 c (by omega), ml0 mi 0 c hc], rfl⟩
    · obtain ⟨g, gq⟩ := Gq_e (S := S) (v := v) (n := n) (sz := j + 1) q1
      have cz : ¬ nI (j + 1) ≤ c → ∃ k, k < j + 1 ∧ c = nI k := by
        intro hc
        have a1 := Int32.le_iff_toInt_le.mp h3
        have a2 := Int32.lt_iff_toInt_lt.mp (Int32.not_le.mp hc)
        rw [nI_toInt (by omega)] at a2
        rw [show (0 : Int32).toInt = 0 from rfl] at a1
        refine ⟨c.toInt.toNat, by omega, ?_⟩
        apply Int32.toInt_inj.mp
        rw [nI_toInt (by omega)]; omega
      have ans : ∃ w : Int32, (nI (j + 1) ≤ c → w = -5) ∧ (¬ nI (j + 1) ≤ c → ∃ k, k < j + 1 ∧ c = nI k ∧ w = nI (g k)) := by
        by_cases z : nI (j + 1) ≤ c
        · exact ⟨-5, fun _ => rfl, fun x => absurd z x⟩
        · obtain ⟨k, hk, e⟩ := cz z
          exact ⟨nI (g k), fun x => absurd x z, fun _ => ⟨k, hk, e, rfl⟩⟩
      obtain ⟨w, w1, w2⟩ := ans
      refine ⟨w, S, T, fun mi ml pm k => ?_, fun mi ml pm k => ?_, ok⟩
      · obtain ⟨m1, r1, r2, r3⟩ := c_prepare k ok hv
        rw [e_X5_row, x5_isWithin, bI_i, e_X5_row_8, if_neg h, x5_isHold, bI_i, e_X5_row_15, if_neg h2, if_pos h3, r1, bV_v, e_X5_row_40, (c_fewest ok r3.2.2 (by omega) n1).2 j hj q1 q2, bI_i, e_X5_row_48, if_neg (n9 (by omega))]
        by_cases z : nI (j + 1) ≤ c
        · rw [if_pos z, w1 z]
          exact ⟨m1, ml, pm, rfl, Cl_fx k (fun c hc => r2 c (by omega)), fun c hc => r2 c (by omega), rfl⟩
        · obtain ⟨k', hk, e, ew⟩ := w2 z
          rw [if_neg z, e, c_frow ok hv (by omega) r3 gq hk, bI_i, e_X5_row_77, ew]
          exact ⟨m1, ml, pm, rfl, Cl_fx k (fun c hc => r2 c (by omega)), fun c hc => r2 c (by omega), rfl⟩
      · have km := Ml_th (0 : Int32) k
        obtain ⟨m1, r1, r2, r3⟩ := m_fewestOf (pm := pm) ok hv n1 (by omega) km
        have k1 : Ml m1 ml S T := Ml_fx km (fun c h _ => r1 c h)
        obtain ⟨m2, s1, s2, s3⟩ := m_row53 (ml := ml) (pm := pm) (nI n) (nI v) c (sz := j + 1) (by omega) (j + 1) 0 m1 (by omega) (fun j hj => by omega)
        have k2 : Ml m2 ml S T := Ml_fx k1 (fun c _ h => s2 c h)
        have F1 : 1 ≤ S 0 1 := by have := ok.pF (gq.1.1.1 0 (by omega)); omega
        have ln : Lin S m2 (j + 1) (fun _ => 0) := fun i hi => ⟨s3 i hi, show 0 < S 0 1 by omega⟩
        obtain ⟨t, u1, u2⟩ := m_stops (pm := pm) ok k2 hv (n := n) (by omega) (by omega) (by omega) ln
        have lq : LeQ (j + 1) (fun _ => 0) g := by
          rcases first_or (fun i => g i ≠ 0) (j + 1) with z | ⟨i, hi, z1, z2⟩
          · refine Or.inr (fun i hi => ?_)
            have := z i hi
            show 0 = g i
            rcases Nat.eq_zero_or_pos (g i) with b | b
            · exact b.symm
            · exact absurd (show g i ≠ 0 by omega) this
          · refine Or.inl ⟨i, hi, fun i' hi' => ?_, show 0 < g i by omega⟩
            have := z2 i' hi'
            show 0 = g i'
            rcases Nat.eq_zero_or_pos (g i') with b | b
            · exact b.symm
            · exact absurd (show g i' ≠ 0 by omega) this
        obtain ⟨m3, x1, x2⟩ := m_84 (pm := pm) ok hv (by omega) (by omega) (by omega) gq c w w1 w2 (8 ^ (j + 1)) (fun _ => 0) m2 k2 (by omega) lq ln t u2
        rw [e_X6_row, x6_in, bI_i, e_X6_row_13, if_neg h, x6_in, bI_i, e_X6_row_23, if_neg h2, if_pos h3, r3.2 j hj q1 q2, bI_i, e_X6_row_38, if_neg (n9 (by omega)), show (0 : Int32) = nI 0 from rfl, s1, u1, bI_i, e_X6_row_82, x1]
        exact ⟨m3, ml, rfl, Ml_fx k2 (fun c _ h => x2 c h), fun c hc => by rw [x2 c (by omega), s2 c (by omega), r1 c (by omega), ml0 mi 0 c hc], rfl⟩
