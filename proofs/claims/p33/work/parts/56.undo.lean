/-! minutes, undo, keep, back -/
theorem ds_same (d : Nat → Nat) (k : Nat) : dset d k (d k) = d := by
  funext j
  unfold dset
  by_cases h : j = k
  · rw [if_pos h, h]
  · rw [if_neg h]
theorem minD_w {d : Nat → Nat} (h : ¬ d 1 = 0) (t i : Nat) : minD d t i = dset d 0 (d 0 + t) := by
  funext j
  unfold minD dset
  by_cases z : j = 0
  · rw [if_pos z, if_pos z]
  · rw [if_neg z, if_neg z, if_neg (fun c => h c.2.2.1)]
theorem x0_isP (mi : hM) (ml : Nat → Nat → Int64) (pm : Nat → Option Nat) {p f : Nat} (e : mi 11 2 = nI p) (hp : p < 128) (hf : f < 8) : f_X0_isPicked [.ref 11, .int (nI f)] (hG mi ml pm) = some (some (.int (b01 (p.testBit f))), hG mi ml pm) := by
  rw [e_X0_isPicked, e]
  by_cases q : p.testBit f = true
  · rw [if_pos ((bit_1 hp hf).mpr q), q]; rfl
  · rw [if_neg (fun h => q ((bit_1 hp hf).mp h)), Bool.eq_false_iff.mpr q]; rfl
theorem x6_isP (mi : hM) (ml : Nat → Nat → Int64) (pm : Nat → Option Nat) {p f : Nat} (e : mi 105 2 = nI p) (hp : p < 128) (hf : f < 8) : f_X6_isPicked [.ref 99, .int (nI f)] (hG mi ml pm) = some (some (.int (b01 (p.testBit f))), hG mi ml pm) := by
  rw [e_X6_isPicked, e]
  by_cases q : p.testBit f = true
  · rw [if_pos ((bit_1 hp hf).mpr q), q]; rfl
  · rw [if_neg (fun h => q ((bit_1 hp hf).mp h)), Bool.eq_false_iff.mpr q]; rfl
theorem c_dryBy (ml : Nat → Nat → Int64) (pm : Nat → Option Nat) {d : Nat → Nat} {t F : Nat} (hF : F ≤ 7) (hp : d 2 < 128) (hw0 : d 1 = 0) : ∀ r i (m : hM), i + r = F → m 7 0 = nI F → Cm m 11 (minD d t i) → ∃ m1 : hM, w_X5_dryBy_2 (nI t) (nI i) (hG m ml pm) = some (none, hG m1 ml pm) ∧ (∀ c, c ≠ 12 → m1 c = m c) ∧ Cm m1 11 (minD d t F) := by
  intro r
  induction r with
  | zero =>
    intro i m hi h7 k
    rw [e_X5_dryBy_2, h7, if_pos (yle (by omega) (by omega))]
    refine ⟨m, rfl, fun _ _ => rfl, ?_⟩
    rw [← show i = F by omega]; exact k
  | succ r ih =>
    intro i m hi h7 k
    have e2 : m 11 2 = nI (d 2) := by have := k.1.2.2.1; rwa [minD_o _ _ _ (by omega) (by omega)] at this
    have e12 : m 12 i = nI (d (3 + i)) := by have := (k.2.1 i (by omega)).1; rwa [minD_o _ _ _ (by omega) (by omega)] at this
    have es := minD_s d t i (by omega)
    rw [e_X5_dryBy_2, h7, if_neg (nle (by omega) (by omega)), x0_isP m ml pm e2 hp (by omega), bI_i, e_X5_dryBy_21, nI_1]
    cases hb : (d 2).testBit i with
    | false =>
      rw [if_pos (by decide)]
      refine ih (i + 1) m (by omega) h7 ?_
      rw [es, if_neg (fun c => by rw [hb] at c; cases c.2), ← minD_o d t i (show 3 + i ≠ 0 by omega) (by omega), ds_same]
      exact k
    | true =>
      rw [if_neg (by decide), if_pos (in_nI (by omega) (by omega)), if_pos (in_nI (by omega) (by omega)), cl_nI (by omega), e12, nI_add]
      obtain ⟨m1, r1, r2, r3⟩ := ih (i + 1) (hw m 12 i (nI (d (3 + i) + t))) (by omega) (by rw [hw_o _ _ _ _ (by omega)]; exact h7) (by rw [es, if_pos ⟨hw0, hb⟩]; exact Cm_row (r := 0) k (by omega) (by omega))
      exact ⟨m1, r1, fun c hc => by rw [r2 c hc, hw_oo _ _ _ hc], r3⟩
theorem m_dryBy (ml : Nat → Nat → Int64) (pm : Nat → Option Nat) {d : Nat → Nat} {t F : Nat} (hF : F ≤ 7) (hp : d 2 < 128) (hd1 : d 1 ≤ 1) : ∀ r i (m : hM), i + r = F → m 101 0 = nI F → Mm m 105 0 (minD d t i) → ∃ m1 : hM, w_X6_minutes_50 (nI t) (nI i) (hG m ml pm) = some (some (.int (nI (d 0 + t))), hG m1 ml pm) ∧ (∀ c, c ≠ 105 → m1 c = m c) ∧ Mm m1 105 0 (minD d t F) := by
  intro r
  induction r with
  | zero =>
    intro i m hi h7 k
    have e0 : m 105 0 = nI (d 0 + t) := by have := k 0 (by omega); exact this
    rw [e_X6_minutes_50, h7, if_pos (yle (by omega) (by omega)), e0]
    refine ⟨m, rfl, fun _ _ => rfl, ?_⟩
    rw [← show i = F by omega]; exact k
  | succ r ih =>
    intro i m hi h7 k
    have g : ∀ j, j < 32 → m 105 j = nI (minD d t i j) := fun j hj => by have := k j hj; rwa [Nat.zero_add] at this
    have e2 : m 105 2 = nI (d 2) := by rw [g 2 (by omega), minD_o _ _ _ (by omega) (by omega)]
    have e1 : m 105 1 = nI (d 1) := by rw [g 1 (by omega), minD_o _ _ _ (by omega) (by omega)]
    have e3 : m 105 (3 + i) = nI (d (3 + i)) := by rw [g _ (by omega), minD_o _ _ _ (by omega) (by omega)]
    have es := minD_s d t i (by omega)
    have nx : ∀ v, v = (if d 1 = 0 ∧ (d 2).testBit i = true then d (3 + i) + t else d (3 + i)) → ∃ m1 : hM, w_X6_minutes_50 (nI t) (nI (i + 1)) (hG (hw m 105 (3 + i) (nI v)) ml pm) = some (some (.int (nI (d 0 + t))), hG m1 ml pm) ∧ (∀ c, c ≠ 105 → m1 c = m c) ∧ Mm m1 105 0 (minD d t F) := by
      rintro v rfl
      obtain ⟨m1, r1, r2, r3⟩ := ih (i + 1) (hw m 105 (3 + i) (nI (if d 1 = 0 ∧ (d 2).testBit i = true then d (3 + i) + t else d (3 + i)))) (by omega) (by rw [hw_o _ _ _ _ (by omega)]; exact h7) (by rw [es]; exact Mm_set k)
      exact ⟨m1, r1, fun c hc => by rw [r2 c hc, hw_oo _ _ _ hc], r3⟩
    rw [e_X6_minutes_50, h7, if_neg (nle (by omega) (by omega)), lit_nI 3, nI_add, if_pos (in_nI (by omega) (by omega)), cl_nI (by omega), e3, x6_isP m ml pm e2 hp (by omega), bI_i, e_X6_minutes_74, nI_1, if_pos (in_nI (by omega) (by omega)), if_pos (in_nI (by omega) (by omega)), cl_nI (by omega), e1, Int32.add_zero, nI_add]
    cases hb : (d 2).testBit i with
    | false =>
      rw [if_pos (by decide)]
      exact nx _ (by rw [if_neg (fun c => by rw [hb] at c; cases c.2)])
    | true =>
      rw [if_neg (by decide)]
      by_cases z : d 1 = 0
      · rw [if_pos (by rw [z]; rfl)]
        exact nx _ (by rw [if_pos ⟨z, hb⟩])
      · rw [if_neg (nz z (by omega))]
        exact nx _ (by rw [if_neg (fun c => z c.1)])
theorem b_minutes {S : pS} (ok : Ok S) (T : Int64) (a : Int32) : ∃ v S' T', Both (f_X5_minutes [.ref 0, .int a]) (f_X6_minutes [.ref 99, .int a]) S T v S' T' := by
  have F7 := ok.F7
  have o0 : S 5 0 ≤ 600 := ok.2.2.1.1
  have o1 : S 5 1 ≤ 1 := ok.2.2.1.2.1
  by_cases h : wi3 a 1 60 = 0
  · refine ⟨-1, S, T, Both_q ok (fun mi ml pm k => ?_) (fun mi ml pm k => ?_)⟩
    · rw [e_X5_minutes, x5_isWithin, bI_i, e_X5_minutes_7, if_pos h]
    · rw [e_X6_minutes, x6_in, bI_i, e_X6_minutes_12, if_pos h]
  obtain ⟨t, t1, t2, rfl⟩ := nat_of (b := 1) (n := 60) (by omega) h (by omega)
  by_cases h6 : S 5 0 + t ≤ 600
  · have y6 : nI (S 5 0 + t) ≤ (600 : Int32) := yle (b := 600) h6 (by omega)
    refine ⟨nI (S 5 0 + t), _, T, Both_d ok (Okm_min ok.2.2.1 F7 h6) (fun mi ml pm k => ⟨fun g => w_X5_minutes_34 (nI t) g, ?_, fun m p' km => ?_⟩) (fun mi ml pm k => ⟨fun g => w_X6_minutes_38 (nI t) g, ?_, fun m km => ?_⟩)⟩
    · rw [e_X5_minutes, x5_isWithin, bI_i, e_X5_minutes_7, if_neg h, c_mi k, nI_add, if_pos y6]
    · show ∃ m1, w_X5_minutes_34 _ (hG m ml p') = _ ∧ _
      have c5 := c_N5 km
      have cF : m 7 0 = nI (S 0 1) := by have := c_F km; rwa [rem01] at this
      rw [e_X5_minutes_34, c5.1.2.1, c5.1.1, nI_add]
      have cm : Cm (hw m 11 0 (nI (S 5 0 + t))) 11 (minD (S 5) t 0) := by rw [minD_0]; exact Cm_num c5 (by omega)
      by_cases z : S 5 1 = 0
      · rw [if_pos (by rw [z]; rfl)]
        obtain ⟨m1, r1, r2, r3⟩ := c_dryBy ml p' F7 ok.pk z (S 0 1) 0 _ (by omega) (by rw [hw_o _ _ _ _ (by omega)]; exact cF) cm
        rw [e_X5_dryBy, show (0 : Int32) = nI 0 from rfl, r1, bV_v, e_X5_minutes_62, r3.1.1]
        refine ⟨m1, rfl, fun c hc => by rw [r2 c (by omega), hw_oo _ _ _ (by omega)], r3⟩
      · rw [if_neg (nz z (by omega))]
        refine ⟨_, rfl, fun c hc => hw_oo _ _ _ (by omega), ?_⟩
        rw [minD_w z]; exact Cm_num c5 (by omega)
    · rw [e_X6_minutes, x6_in, bI_i, e_X6_minutes_12, if_neg h, m_s (Ml_th (0 : Int32) k) 0 (by omega), nI_add, if_pos y6]
    · show ∃ m1, w_X6_minutes_38 _ (hG m ml pm) = _ ∧ _
      have c5 := m_N5 km
      have cF : m 101 0 = nI (S 0 1) := by have := m_F km; rwa [rem01] at this
      rw [e_X6_minutes_38, show m 105 0 = nI (S 5 0) from c5 0 (by omega), nI_add]
      obtain ⟨m1, r1, r2, r3⟩ := m_dryBy ml pm (t := t) F7 ok.pk o1 (S 0 1) 0 (hw m 105 0 (nI (S 5 0 + t))) (by omega) (by rw [hw_o _ _ _ _ (by omega)]; exact cF) (by rw [minD_0]; exact Mm_set c5)
      exact ⟨m1, r1, fun c hc => by rw [r2 c hc, hw_oo _ _ _ hc], r3⟩
  · have y6 : ¬ nI (S 5 0 + t) ≤ (600 : Int32) := nle (b := 600) (by omega) (by omega)
    refine ⟨-2, S, T, Both_q ok (fun mi ml pm k => ?_) (fun mi ml pm k => ?_)⟩
    · rw [e_X5_minutes, x5_isWithin, bI_i, e_X5_minutes_7, if_neg h, c_mi k, nI_add, if_neg y6]
    · rw [e_X6_minutes, x6_in, bI_i, e_X6_minutes_12, if_neg h, m_s (Ml_th (0 : Int32) k) 0 (by omega), nI_add, if_neg y6]
/-- copying 32 numbers into NOW -/
theorem m_cpy (ml : Nat → Nat → Int64) (pm : Nat → Option Nat) {w : Int32 → hp_G → Option sx_R} {src off : Nat} (hs : src ≠ 105) (m0 : hM) (hs2 : ∀ i (m : hM), i < 32 → (∀ c, c ≠ 105 → m c = m0 c) → w (nI i) (hG m ml pm) = w (nI (i + 1)) (hG (hw m 105 i (m src (off + i))) ml pm)) :
    w (nI 0) (hG m0 ml pm) = w (nI 32) (hG (hcel m0 105 (fun k => if k < 32 then m0 src (off + k) else m0 105 k)) ml pm) := by
  have lp := lpG (w := fun m i => w i (hG m ml pm)) (fun i => hcel m0 105 (fun k => if k < i then m0 src (off + k) else m0 105 k)) (n := 32) ?_ 0 (by omega)
  · refine Eq.trans ?_ lp
    show w (nI 0) (hG m0 ml pm) = w (nI 0) (hG (hcel m0 105 (fun k => if k < 0 then m0 src (off + k) else m0 105 k)) ml pm)
    have : (fun k => if k < 0 then m0 src (off + k) else m0 105 k) = m0 105 := by funext k; rw [if_neg (by omega)]
    rw [this, hcel_self]
  · intro i hi
    show w (nI i) (hG (hcel m0 105 (fun k => if k < i then m0 src (off + k) else m0 105 k)) ml pm) = w (nI (i + 1)) (hG (hcel m0 105 (fun k => if k < i + 1 then m0 src (off + k) else m0 105 k)) ml pm)
    rw [hs2 i _ hi (fun c hc => hcel_ne _ _ hc), hw_hcel, hcel_hcel, hcel_at, hcel_ne _ _ hs]
    congr 3
    funext k
    simp only [upd]
    by_cases c : k = i
    · rw [if_pos c, if_pos (by omega), c]
    · rw [if_neg c]
      by_cases c2 : k < i
      · rw [if_pos c2, if_pos (by omega)]
      · rw [if_neg c2, if_neg (by omega)]
theorem Mm_cpy (m0 : hM) {src off : Nat} {d : Nat → Nat} (k : Mm m0 src off d) : Mm (hcel m0 105 (fun k => if k < 32 then m0 src (off + k) else m0 105 k)) 105 0 d := by
  intro j hj
  rw [Nat.zero_add, hcel_at]
  show (if j < 32 then m0 src (off + j) else m0 105 j) = _
  rw [if_pos hj]
  exact k j hj
/-- the number of undos alone -/
theorem Cl_3 {mi : hM} {ml : Nat → Nat → Int64} {pm : Nat → Option Nat} {S : pS} {T : Int64} (k : Cl mi ml pm S T) {n : Nat} (hn : n ≤ S 0 3) : Cl (hw mi 0 4 (nI n)) ml pm (sset S 0 3 n) T := by
  obtain ⟨u1, q, u2, u3, u4⟩ := k.2.2.2.1
  refine Cl_U k (fun c hc h0 => hw_oo _ _ _ h0) (fun j hj => hw_k _ _ _ hj) (fun r h1 _ => sset_o _ _ _ (by omega)) (fun j hj => sset_k _ _ _ hj) ⟨by rw [hw_c, sset_c], q, u2, u3, fun i hi h10 => ?_⟩
  rw [sset_c] at hi
  rw [sset_o _ _ _ (by omega)]
  have b := isPa_b (u2 i h10).2
  exact Cm_fr (fun c _ _ => hw_oo _ _ _ (by omega)) (u4 i (by omega) h10)
theorem Ml_3 {mi : hM} {ml : Nat → Nat → Int64} {S : pS} {T : Int64} (k : Ml mi ml S T) {n : Nat} (hn : n ≤ S 0 3) : Ml (hw mi 99 18 (nI n)) ml (sset S 0 3 n) T := by
  refine Ml_U k (fun c h1 _ => hw_oo _ _ _ (by omega)) (fun j hj => hw_k _ _ _ hj) (fun r h1 _ => sset_o _ _ _ (by omega)) (fun j hj => sset_k _ _ _ hj) ⟨by rw [hw_c, sset_c], fun i hi => ?_⟩
  rw [sset_c] at hi
  unfold Mm
  rw [sset_o _ _ _ (by omega), hw_oo _ _ _ (by omega)]
  exact k.2.2.2.1.2 i (by omega)
theorem Ok_3 {S : pS} (ok : Ok S) {n : Nat} (hn : n ≤ S 0 3) : Ok (sset S 0 3 n) := by
  have u := ok.u
  obtain ⟨a, b, c, d, e, g⟩ := ok
  have h : ∀ r, 1 ≤ r → sset S 0 3 n r = S r := fun r hr => sset_o _ _ _ (by omega)
  have h0 : ∀ k, k ≠ 3 → sset S 0 3 n 0 k = S 0 k := fun k hk => sset_k _ _ _ hk
  refine ⟨?_, ?_, ?_, ?_, ?_, by rw [h0 4 (by omega)]; exact g⟩
  · rw [h0 0 (by omega), h 1 (by omega)]; exact a
  · rw [h0 1 (by omega), h0 2 (by omega), h 2 (by omega), h 3 (by omega), h 4 (by omega)]; exact b
  · rw [h0 1 (by omega), h 3 (by omega), h 5 (by omega)]; exact c
  · rw [sset_c, h0 1 (by omega), h 3 (by omega)]
    exact ⟨by omega, fun i hi => by rw [h (10 + i) (by omega)]; exact d.2 i (by omega)⟩
  · intro i hi
    rw [h0 1 (by omega), h 3 (by omega), h 6 (by omega), h (20 + i) (by omega)]
    exact e i hi
theorem b_undo {S : pS} (ok : Ok S) (T : Int64) : ∃ v S' T', Both (f_X5_undo [.ref 0]) (f_X6_undo [.ref 99]) S T v S' T' := by
  have u := ok.u
  have F7 := ok.F7
  by_cases h : S 0 3 = 0
  · refine ⟨-2, S, T, Both_q ok (fun mi ml pm k => ?_) (fun mi ml pm k => ?_)⟩
    · rw [e_X5_undo, c_kn k, h, if_neg (by decide)]
    · rw [e_X6_undo, m_kn k, h, if_pos (by decide)]
  obtain ⟨n, hn⟩ : ∃ n, S 0 3 = n + 1 := ⟨S 0 3 - 1, by omega⟩
  have om := ok.2.2.2.1.2 n (by omega)
  have s1 : sset S 0 3 n 0 1 = S 0 1 := sset_k _ _ _ (by omega)
  have s3 : sset S 0 3 n 3 = S 3 := sset_o _ _ _ (by omega)
  refine ⟨nI n, srow (sset S 0 3 n) 5 (S (10 + n)), T, fun mi ml pm k => ?_, fun mi ml pm k => ?_, Ok_N (Ok_3 ok (by omega)) (by rw [s1, s3]; exact om)⟩
  · obtain ⟨u1, q, u2, u3, u4⟩ := k.2.2.2.1
    obtain ⟨p1, p2⟩ := u2 n (by omega)
    have b := isPa_b p2
    rw [e_X5_undo, c_kn k, if_pos (show (1 : Int32) ≤ nI (S 0 3) from yle (a := 1) (by omega) (by omega)), hn, nm_s, if_pos (in_nI (by omega) (by omega)), cl_nI (by omega), show xm pm 16 n = pm n from rfl, p1, Option.bind_some, x0_take _ _ _ isM_11 (isPa_M p2) (by omega), bV_v, e_X5_undo_37, show tkm (hw mi 0 4 (nI n)) 11 (q n) 0 4 = nI n from by rw [tkm_o _ (by omega), hw_c]]
    refine ⟨_, _, _, rfl, Cl_N (Cl_3 k (n := n) (by omega)) (fun c hc => tkm_o _ (by omega)) (tkm_Cm (by have := om.2.2.2.2.2.1; omega) (Cm_fr (fun c _ _ => hw_oo _ _ _ (by omega)) (u4 n (by omega) (by omega)))), fun c hc => by rw [tkm_o _ (by omega), hw_oo _ _ _ (by omega)], rfl⟩
  · have k' := Ml_th (0 : Int32) k
    rw [e_X6_undo, m_kn k, if_neg (nz h (by omega)), hn, nm_s]
    have k3 := Ml_3 k' (n := n) (by omega)
    generalize hm : hw (hw mi 99 0 0) 99 18 (nI n) = m at k3 ⊢
    have kn : m 99 18 = nI n := by rw [← hm, hw_c]
    have cp := m_cpy ml pm (w := w_X6_undo_27) (src := 108) (off := 32 * n) (by omega) m ?_
    · rw [show (0 : Int32) = nI 0 from rfl, cp, e_X6_undo_27, if_pos (by decide), hcel_ne _ _ (by omega), kn]
      refine ⟨_, _, rfl, Ml_N k3 (fun c h1 h2 => hcel_ne _ _ h2) (Mm_cpy m ?_), fun c hc => by rw [hcel_ne _ _ (by omega), ← hm, hw_oo _ _ _ (by omega), hw_oo _ _ _ (by omega)], rfl⟩
      have : Mm (hw mi 99 0 0) 108 (32 * n) (S (10 + n)) := k'.2.2.2.1.2 n (by omega)
      unfold Mm at this ⊢
      rw [← hm, hw_oo _ _ _ (by omega)]
      exact this
    · intro i m2 hi fr
      rw [e_X6_undo_27, fr 99 (by omega), kn, if_neg (show ¬ (32 : Int32) ≤ nI i from nle (a := 32) hi (by omega)), lit_nI 32, pk_mul, nI_add, if_pos (in_nI (by omega) (by omega)), if_pos (in_nI (by omega) (by omega)), cl_nI (by omega), cl_nI (by omega), nI_1]
theorem im_x (pm : Nat → Option Nat) {i : Nat} (hi : i < 2) : xm pm 17 i = some (74 + 5 * i) := by
  rcases (show i = 0 ∨ i = 1 by omega) with rfl | rfl <;> rfl
theorem im_M {i : Nat} (hi : i < 2) : isM (74 + 5 * i) := by
  rcases (show i = 0 ∨ i = 1 by omega) with rfl | rfl <;> exact ⟨by decide, by decide⟩
/-- the image i becomes as NOW -/
def kepS (S : pS) (i : Nat) : pS := srow (sset S 6 i 1) (20 + i) (S 5)
theorem kep_o (S : pS) (i : Nat) {r : Nat} (h : r ≠ 6) (h2 : r ≠ 20 + i) : kepS S i r = S r := by
  funext k; unfold kepS srow; rw [if_neg h2, sset_o _ _ _ h]
theorem kep_i (S : pS) (i : Nat) : kepS S i (20 + i) = S 5 := by funext k; unfold kepS srow; rw [if_pos rfl]
theorem kep_6 (S : pS) (i j : Nat) (h : i < 2) : kepS S i 6 j = if j = i then 1 else S 6 j := by
  unfold kepS srow; rw [if_neg (by omega)]; unfold sset; rw [if_pos rfl]
theorem Ok_kep {S : pS} (ok : Ok S) {i : Nat} (hi : i < 2) : Ok (kepS S i) := by
  obtain ⟨a, b, c, d, e, g⟩ := ok
  unfold Ok
  rw [kep_o S i (r := 0) (by omega) (by omega), kep_o S i (r := 1) (by omega) (by omega), kep_o S i (r := 2) (by omega) (by omega), kep_o S i (r := 3) (by omega) (by omega), kep_o S i (r := 4) (by omega) (by omega), kep_o S i (r := 5) (by omega) (by omega)]
  refine ⟨a, b, c, ⟨d.1, fun j hj => by rw [kep_o S i (by omega) (by omega)]; exact d.2 j hj⟩, fun j hj => ?_, g⟩
  rw [kep_6 S i j hi]
  by_cases q : j = i
  · rw [if_pos q, q, kep_i]; exact ⟨by omega, fun _ => c⟩
  · rw [if_neg q, kep_o S i (by omega) (by omega)]; exact e j hj
theorem b_keep {S : pS} (ok : Ok S) (T : Int64) (a : Int32) : ∃ v S' T', Both (f_X5_keep [.ref 0, .int a]) (f_X6_keep [.ref 99, .int a]) S T v S' T' := by
  have u := ok.u
  have F7 := ok.F7
  have n7 := ok.n7
  by_cases h : wi3 a 0 1 = 0
  · refine ⟨-1, S, T, Both_q ok (fun mi ml pm k => ?_) (fun mi ml pm k => ?_)⟩
    · rw [e_X5_keep, x5_isWithin, bI_i, e_X5_keep_6, if_pos h]
    · rw [e_X6_keep, x6_in, bI_i, e_X6_keep_11, if_pos h]
  obtain ⟨i, -, hi1, rfl⟩ := nat_of (b := 0) (n := 1) (by omega) h (by omega)
  have hi : i < 2 := by omega
  refine ⟨nI (S 5 0), kepS S i, T, fun mi ml pm k => ?_, fun mi ml pm k => ?_, Ok_kep ok hi⟩
  · rw [e_X5_keep, x5_isWithin, bI_i, e_X5_keep_6, if_neg h, if_pos (in_nI hi (by omega)), cl_nI (by omega), im_x pm hi, Option.bind_some, if_pos ((M_isT (im_M hi)).symm ▸ trivial), x0_take _ _ _ (im_M hi) isM_11 (by omega), bV_v, e_X5_keep_24, if_pos (in_nI hi (by omega)), cl_nI (by omega), tkm_o _ (by omega), c_mi k]
    have fr : ∀ c, c ≠ 18 → (c < 74 + 5 * i ∨ 74 + 5 * i + 4 < c) → hw (tkm mi (74 + 5 * i) 11) 18 i 1 c = mi c := fun c h1 h2 => by rw [hw_oo _ _ _ h1, tkm_o _ h2]
    refine ⟨_, _, _, rfl, ?_, fun c hc => fr c (by omega) (by omega), rfl⟩
    obtain ⟨t, d, nn, uu, kk, e, tr⟩ := k
    refine ⟨ClT_fr (by rw [fr 1 (by omega) (by omega)]) (fr 2 (by omega) (by omega)) (by rw [kep_o S i (by omega) (by omega)]) (kep_o S i (by omega) (by omega)) t, ClD_fr (fun c _ _ => fr c (by omega) (by omega)) (by rw [kep_o S i (by omega) (by omega)]) (by rw [kep_o S i (by omega) (by omega)]) (kep_o S i (by omega) (by omega)) (kep_o S i (by omega) (by omega)) (kep_o S i (by omega) (by omega)) d, ?_, ClU_fr (by rw [fr 0 (by omega) (by omega)]) (fun c _ _ => fr c (by omega) (by omega)) (by rw [kep_o S i (by omega) (by omega)]) (fun j _ => kep_o S i (by omega) (by omega)) uu, fun j hj => ?_, ClE_fr (by rw [fr 0 (by omega) (by omega)]) (fun c _ _ => fr c (by omega) (by omega)) (by rw [kep_o S i (by omega) (by omega)]) e, tr⟩
    · rw [kep_o S i (by omega) (by omega)]
      exact Cm_fr (fun c _ _ => fr c (by omega) (by omega)) nn
    · rw [kep_6 S i j hi]
      by_cases q : j = i
      · rw [if_pos q, q, kep_i, hw_c]
        exact ⟨rfl, fun _ => Cm_fr (fun c _ _ => hw_oo _ _ _ (by omega)) (tkm_Cm (by omega) nn)⟩
      · rw [if_neg q, kep_o S i (by omega) (by omega), hw_k _ _ _ q, tkm_o _ (by omega)]
        exact ⟨(kk j hj).1, fun e1 => Cm_fr (fun c _ _ => fr c (by omega) (by omega)) ((kk j hj).2 e1)⟩
  · have k' := Ml_th (0 : Int32) k
    rw [e_X6_keep, x6_in, bI_i, e_X6_keep_11, if_neg h]
    have m0' := ml0 mi 0
    generalize hw mi 99 0 0 = m at k' m0' ⊢
    have lp := lpG (w := fun m j => w_X6_keep_18 (nI i) j (hG m ml pm)) (fun j => hcel m 106 (fun x => if 32 * i ≤ x ∧ x < 32 * i + j then m 105 (x - 32 * i) else m 106 x)) (n := 32) ?_ 0 (by omega)
    · have lp' : w_X6_keep_18 (nI i) 0 (hG m ml pm) = w_X6_keep_18 (nI i) (nI 32) (hG (hcel m 106 (fun x => if 32 * i ≤ x ∧ x < 32 * i + 32 then m 105 (x - 32 * i) else m 106 x)) ml pm) := by
        refine Eq.trans ?_ lp
        show _ = w_X6_keep_18 _ (nI 0) (hG (hcel m 106 (fun x => if 32 * i ≤ x ∧ x < 32 * i + 0 then m 105 (x - 32 * i) else m 106 x)) ml pm)
        have : (fun x => if 32 * i ≤ x ∧ x < 32 * i + 0 then m 105 (x - 32 * i) else m 106 x) = m 106 := by funext x; rw [if_neg (by omega)]
        rw [this, hcel_self]; rfl
      rw [lp', e_X6_keep_18, if_pos (by decide), if_pos (in_nI hi (by omega)), cl_nI (by omega), hcel_ne _ _ (by omega), m_s k' 0 (by omega)]
      have fr : ∀ c, c ≠ 106 → c ≠ 107 → hw (hcel m 106 (fun x => if 32 * i ≤ x ∧ x < 32 * i + 32 then m 105 (x - 32 * i) else m 106 x)) 107 i 1 c = m c := fun c h1 h2 => by rw [hw_oo _ _ _ h2, hcel_ne _ _ h1]
      refine ⟨_, _, rfl, ?_, fun c hc => by rw [fr c (by omega) (by omega), m0' c hc], rfl⟩
      obtain ⟨t, d, nn, uu, kk, e, tr⟩ := k'
      refine ⟨MlT_fr (by rw [fr 99 (by omega) (by omega)]) (fr 100 (by omega) (by omega)) (by rw [kep_o S i (by omega) (by omega)]) (kep_o S i (by omega) (by omega)) t, MlD_fr (by rw [fr 101 (by omega) (by omega)]) (by rw [fr 101 (by omega) (by omega)]) (fun c _ _ => fr c (by omega) (by omega)) (by rw [kep_o S i (by omega) (by omega)]) (by rw [kep_o S i (by omega) (by omega)]) (kep_o S i (by omega) (by omega)) (kep_o S i (by omega) (by omega)) (kep_o S i (by omega) (by omega)) d, ?_, MlU_fr (by rw [fr 99 (by omega) (by omega)]) (fr 108 (by omega) (by omega)) (by rw [kep_o S i (by omega) (by omega)]) (fun j _ => kep_o S i (by omega) (by omega)) u uu, fun j hj => ?_, by rw [fr 99 (by omega) (by omega), kep_o S i (by omega) (by omega)]; exact e, tr⟩
      · unfold Mm
        rw [fr 105 (by omega) (by omega), kep_o S i (by omega) (by omega)]; exact nn
      · rw [kep_6 S i j hi]
        by_cases q : j = i
        · rw [if_pos q, q, kep_i, hw_c]
          refine ⟨rfl, fun _ x hx => ?_⟩
          rw [hw_oo _ _ _ (by omega), hcel_at]
          show (if 32 * i ≤ 32 * i + x ∧ 32 * i + x < 32 * i + 32 then m 105 (32 * i + x - 32 * i) else _) = _
          rw [if_pos (by omega), show 32 * i + x - 32 * i = 0 + x by omega]
          exact nn x hx
        · rw [if_neg q, kep_o S i (by omega) (by omega), hw_k _ _ _ q, hcel_ne _ _ (by omega)]
          refine ⟨(kk j hj).1, fun e1 x hx => ?_⟩
          rw [hw_oo _ _ _ (by omega), hcel_at]
          show (if 32 * i ≤ 32 * j + x ∧ 32 * j + x < 32 * i + 32 then _ else m 106 (32 * j + x)) = _
          rw [if_neg (by omega)]
          exact (kk j hj).2 e1 x hx
    · intro j hj
      show w_X6_keep_18 _ (nI j) (hG (hcel m 106 (fun x => if 32 * i ≤ x ∧ x < 32 * i + j then m 105 (x - 32 * i) else m 106 x)) ml pm) = w_X6_keep_18 _ (nI (j + 1)) (hG (hcel m 106 (fun x => if 32 * i ≤ x ∧ x < 32 * i + (j + 1) then m 105 (x - 32 * i) else m 106 x)) ml pm)
      rw [e_X6_keep_18, if_neg (show ¬ (32 : Int32) ≤ nI j from nle (a := 32) hj (by omega)), if_pos (in_nI hj (by omega)), lit_nI 32, pk_mul, nI_add, if_pos (in_nI (by omega) (by omega)), cl_nI (by omega), cl_nI (by omega), nI_1, hw_hcel, hcel_hcel, hcel_at, hcel_ne _ _ (by omega)]
      congr 3
      funext x
      simp only [upd]
      by_cases c : x = 32 * i + j
      · rw [if_pos c, if_pos (by omega), c, show 32 * i + j - 32 * i = j by omega]
      · rw [if_neg c]
        by_cases c2 : 32 * i ≤ x ∧ x < 32 * i + j
        · rw [if_pos c2, if_pos (by omega)]
        · rw [if_neg c2, if_neg (by omega)]
theorem ss_sr (S : pS) (d : Nat → Nat) (n : Nat) : sset (srow S 5 d) 0 3 n = srow (sset S 0 3 n) 5 d := by
  funext c x
  by_cases q : c = 0
  · subst q; simp [sset, srow]
  · simp [sset, srow, q]
theorem b_back {S : pS} (ok : Ok S) (T : Int64) (a : Int32) : ∃ v S' T', Both (f_X5_back [.ref 0, .int a]) (f_X6_back [.ref 99, .int a]) S T v S' T' := by
  have u := ok.u
  have F7 := ok.F7
  by_cases h : wi3 a 0 1 = 0
  · refine ⟨-1, S, T, Both_q ok (fun mi ml pm k => ?_) (fun mi ml pm k => ?_)⟩
    · rw [e_X5_back, x5_isWithin, bI_i, e_X5_back_6, if_pos h]
    · rw [e_X6_back, x6_in, bI_i, e_X6_back_11, if_pos h]
  obtain ⟨i, -, hi1, rfl⟩ := nat_of (b := 0) (n := 1) (by omega) h (by omega)
  have hi : i < 2 := by omega
  have ek := ok.2.2.2.2.1 i hi
  by_cases h1 : S 6 i = 0
  · refine ⟨-2, S, T, Both_q ok (fun mi ml pm k => ?_) (fun mi ml pm k => ?_)⟩
    · have e18 := (k.2.2.2.2.1 i hi).1
      rw [e_X5_back, x5_isWithin, bI_i, e_X5_back_6, if_neg h, if_pos (in_nI hi (by omega)), if_pos (show mi 18 (Int32.toNatClampNeg (nI i)) = 0 by rw [cl_nI (by omega), e18, h1]; rfl)]
    · have k' := Ml_th (0 : Int32) k
      have e18 := (k'.2.2.2.2.1 i hi).1
      rw [e_X6_back, x6_in, bI_i, e_X6_back_11, if_neg h, if_pos (in_nI hi (by omega)), if_pos (show hw mi 99 0 0 107 (Int32.toNatClampNeg (nI i)) = 0 by rw [cl_nI (by omega), e18, h1]; rfl)]
  have h6 : S 6 i = 1 := by omega
  have om := ek.2 h6
  have s1 : sset S 0 3 0 0 1 = S 0 1 := sset_k _ _ _ (by omega)
  have s3 : sset S 0 3 0 3 = S 3 := sset_o _ _ _ (by omega)
  refine ⟨nI (S (20 + i) 0), srow (sset S 0 3 0) 5 (S (20 + i)), T, fun mi ml pm k => ?_, fun mi ml pm k => ?_, Ok_N (Ok_3 ok (by omega)) (by rw [s1, s3]; exact om)⟩
  · obtain ⟨e18, cm⟩ := k.2.2.2.2.1 i hi
    have t24 : S (20 + i) 24 ≤ 7 := by have := om.2.2.2.2.2.1; omega
    have tc := tkm_Cm (a := 11) t24 (cm h6)
    rw [e_X5_back, x5_isWithin, bI_i, e_X5_back_6, if_neg h, if_pos (in_nI hi (by omega)), if_pos (in_nI hi (by omega)), cl_nI (by omega), e18, if_neg (nz h1 (by omega)), im_x pm hi, Option.bind_some, x0_take _ _ _ isM_11 (im_M hi) (by omega), bV_v, e_X5_back_36, tc.1.1]
    have kc : Cl (tkm mi 11 (74 + 5 * i)) ml pm (srow S 5 (S (20 + i))) T := Cl_N k (fun c hc => tkm_o _ (by omega)) tc
    have e3 : srow S 5 (S (20 + i)) 0 3 = S 0 3 := rfl
    have kd := Cl_3 kc (n := 0) (by omega)
    rw [ss_sr] at kd
    exact ⟨_, _, _, rfl, kd, fun c hc => by rw [hw_oo _ _ _ (by omega), tkm_o _ (by omega)], rfl⟩
  · have k' := Ml_th (0 : Int32) k
    obtain ⟨e18, cm⟩ := k'.2.2.2.2.1 i hi
    have m0' := ml0 mi 0
    rw [e_X6_back, x6_in, bI_i, e_X6_back_11, if_neg h, if_pos (in_nI hi (by omega)), cl_nI (by omega), e18, if_neg (nz h1 (by omega))]
    generalize hw mi 99 0 0 = m at k' cm m0' ⊢
    have cp := m_cpy ml pm (w := w_X6_back_30 (nI i)) (src := 106) (off := 32 * i) (by omega) m ?_
    · have mc := Mm_cpy m (cm h6)
      rw [show (0 : Int32) = nI 0 from rfl, cp, e_X6_back_30, if_pos (by decide), show hcel m 105 (fun k => if k < 32 then m 106 (32 * i + k) else m 105 k) 105 0 = nI (S (20 + i) 0) from mc 0 (by omega)]
      have k3 := Ml_3 (Ml_N k' (fun c h1 h2 => hcel_ne _ _ h2) mc) (n := 0) (by omega)
      rw [ss_sr] at k3
      exact ⟨_, _, rfl, k3, fun c hc => by rw [hw_oo _ _ _ (by omega), hcel_ne _ _ (by omega), m0' c hc], rfl⟩
    · intro j m2 hj fr
      rw [e_X6_back_30, if_neg (show ¬ (32 : Int32) ≤ nI j from nle (a := 32) hj (by omega)), lit_nI 32, pk_mul, nI_add, if_pos (in_nI (by omega) (by omega)), if_pos (in_nI (by omega) (by omega)), cl_nI (by omega), cl_nI (by omega), nI_1]
