/-! seen, wilts -/
theorem sg_x (pm : Nat → Option Nat) {i : Nat} (hi : i < 5) : xm pm 19 i = some (84 + 3 * i) ∧ xm pm (84 + 3 * i) 3 = some (84 + 3 * i + 1) ∧ xm pm (84 + 3 * i) 4 = some (84 + 3 * i + 2) := by
  rcases (show i = 0 ∨ i = 1 ∨ i = 2 ∨ i = 3 ∨ i = 4 by omega) with rfl | rfl | rfl | rfl | rfl <;> exact ⟨rfl, rfl, rfl⟩
theorem sg_s {i : Nat} (hi : i < 5) : hp_sh (84 + 3 * i) = (0, 2) ∧ hp_sh (84 + 3 * i + 1) = (1, 7) ∧ hp_sh (84 + 3 * i + 2) = (1, 7) := by
  rcases (show i = 0 ∨ i = 1 ∨ i = 2 ∨ i = 3 ∨ i = 4 by omega) with rfl | rfl | rfl | rfl | rfl <;> exact ⟨rfl, rfl, rfl⟩
theorem sg_is {i : Nat} (hi : i < 5) (mi : hM) (ml : Nat → Nat → Int64) (pm : Nat → Option Nat) : sx_is (hG mi ml pm) (84 + 3 * i) (0, 2) := ⟨show 84 + 3 * i < 113 by omega, (sg_s hi).1⟩
theorem sg_a1 {i k : Nat} (hi : i < 5) (hk : k < 7) (mi : hM) (ml : Nat → Nat → Int64) (pm : Nat → Option Nat) : sx_ar (hG mi ml pm) (84 + 3 * i + 1) 1 (nI k) := ⟨show 84 + 3 * i + 1 < 113 by omega, by rw [(sg_s hi).2.1], by rw [(sg_s hi).2.1]; exact in_nI hk (by omega)⟩
theorem sg_a2 {i k : Nat} (hi : i < 5) (hk : k < 7) (mi : hM) (ml : Nat → Nat → Int64) (pm : Nat → Option Nat) : sx_ar (hG mi ml pm) (84 + 3 * i + 2) 1 (nI k) := ⟨show 84 + 3 * i + 2 < 113 by omega, by rw [(sg_s hi).2.2], by rw [(sg_s hi).2.2]; exact in_nI hk (by omega)⟩
section V8
variable {mi : hM} {ml : Nat → Nat → Int64} {pm : Nat → Option Nat} {S : pS} {T : Int64}
theorem c_fresh (k : Cl mi ml pm S T) (ok : Ok S) {f : Nat} (hf : f < S 0 1) : ∃ v, f_X5_freshHold [.ref 0, .int (nI f)] (hG mi ml pm) = some (some (.int v), hG mi ml pm) := by
  have F7 := ok.F7
  rw [e_X5_freshHold, c_opn k ok hf, bI_i, e_X5_freshHold_5]
  simp (disch := omega) only [in_iff, if_pos]
  split <;> exact ⟨_, rfl⟩
/-- the sight i is being written: what is left alone -/
def Fr (i : Nat) (m mi : hM) : Prop := ∀ c, c ≠ 84 + 3 * i → c ≠ 84 + 3 * i + 1 → c ≠ 84 + 3 * i + 2 → m c = mi c
theorem Cl_Fr (k : Cl mi ml pm S T) {i : Nat} (hi : i < 5) {m : hM} (h : Fr i m mi) (h1 : sx_01 (m (84 + 3 * i) 1)) (h2 : ∃ l, l ≤ 7 ∧ m (84 + 3 * i) 2 = nI l) : Cl m ml pm S T := by
  have g : ∀ c, c < 84 → m c = mi c := fun c hc => h c (by omega) (by omega) (by omega)
  obtain ⟨t, d, nn, u, kk, e, tr⟩ := k
  refine ⟨ClT_fr (by rw [g 1 (by omega)]) (g 2 (by omega)) rfl rfl t, ClD_fr (fun c _ _ => g c (by omega)) rfl rfl rfl rfl rfl d, Cm_fr (fun c _ _ => g c (by omega)) nn, ClU_fr (by rw [g 0 (by omega)]) (fun c _ _ => g c (by omega)) rfl (fun i _ => rfl) u, ClK_fr (g 18 (by omega)) (fun c _ _ => g c (by omega)) rfl (fun i _ => rfl) kk, ⟨by rw [g 0 (by omega)]; exact e.1, fun j hj => ?_⟩, tr⟩
  by_cases q : j = i
  · rw [q]; exact ⟨h1, h2⟩
  · rw [h (84 + 3 * j) (by omega) (by omega) (by omega)]; exact e.2 j hj
theorem c_seen75 (a b : Int32) {i l : Nat} (hi : i < 5) (ok : Ok S) (hl : l = S 5 24 - 1) : ∀ d j (mi : hM), j + d = l → Cl mi ml pm S T → mi (84 + 3 * i) 2 = nI l → ∃ m, w_X5_seen_75 a b (84 + 3 * i) (nI j) (hG mi ml pm) = some (some (.int (nI (S 0 4 + 1))), hG (hw m 0 8 (nI (S 0 4 + 1))) ml pm) ∧ Fr i m mi ∧ m (84 + 3 * i) 1 = mi (84 + 3 * i) 1 ∧ m (84 + 3 * i) 2 = mi (84 + 3 * i) 2 := by
  have F7 := ok.F7
  have n7 := ok.n7
  intro d
  induction d with
  | zero =>
    intro j mi hj k h2
    refine ⟨mi, ?_, fun _ _ _ _ => rfl, rfl, rfl⟩
    rw [e_X5_seen_75, if_pos (sg_is hi _ _ _), h2, if_pos (yle (by omega) (by omega)), c_sn k, nI_1]
  | succ d ih =>
    intro j mi hj k h2
    have c := ok.ch (k := j) (by omega)
    obtain ⟨v, hv⟩ := c_fresh k ok c
    rw [e_X5_seen_75, if_pos (sg_is hi _ _ _), h2, if_neg (nle (by omega) (by omega)), if_pos (in_nI (by omega) (by omega)), if_pos (sg_is hi _ _ _), (sg_x pm hi).2.1, Option.bind_some, cl_nI (by omega), c_ch k _ (by omega), hv, bI_i, e_X5_seen_108, if_pos (sg_a1 hi (by omega) _ _ _), if_pos (sg_is hi _ _ _), (sg_x pm hi).2.2, Option.bind_some, if_pos (in_nI (by omega) (by omega)), if_pos (sg_a2 hi (by omega) _ _ _), nI_1]
    generalize hm : hw (hw mi (84 + 3 * i + 1) (Int32.toNatClampNeg (nI j)) v) (84 + 3 * i + 2) (Int32.toNatClampNeg (nI j)) (hw mi (84 + 3 * i + 1) (Int32.toNatClampNeg (nI j)) v 12 (Int32.toNatClampNeg (nI (S 5 (25 + j))))) = m2
    have fr : Fr i m2 mi := fun c h0 h1 h2 => by rw [← hm, hw_oo _ _ _ h2, hw_oo _ _ _ h1]
    have e0 : m2 (84 + 3 * i) = mi (84 + 3 * i) := by rw [← hm, hw_oo _ _ _ (by omega), hw_oo _ _ _ (by omega)]
    have k2 : Cl m2 ml pm S T := Cl_Fr k hi fr (by rw [e0]; exact (k.2.2.2.2.2.1.2 i hi).1) (by rw [e0]; exact (k.2.2.2.2.2.1.2 i hi).2)
    obtain ⟨m, r1, r2, r3, r4⟩ := ih (j + 1) m2 (by omega) k2 (by rw [e0]; exact h2)
    exact ⟨m, r1, fun c h0 h1 h2 => by rw [r2 c h0 h1 h2, fr c h0 h1 h2], by rw [r3, e0], by rw [r4, e0]; exact h2⟩
theorem c_seen16 (k : Cl mi ml pm S T) (ok : Ok S) (a b t : Int32) (ht : ¬ t = 0) (h5 : S 0 4 < 5) : CO mi ml (w_X5_seen_16 a b t (hG mi ml pm)) (nI (S 0 4 + 1)) (sset S 0 4 (S 0 4 + 1)) T := by
  have F7 := ok.F7
  have n7 := ok.n7
  have key : ∀ (x : Int32), sx_01 x → CO mi ml (w_X5_seen_58 a b (84 + 3 * S 0 4) x (84 + 3 * S 0 4) (hG (hw mi (84 + 3 * S 0 4) 0 a) ml pm)) (nI (S 0 4 + 1)) (sset S 0 4 (S 0 4 + 1)) T := by
    intro x hx
    rw [e_X5_seen_58, if_pos ⟨sg_is h5 _ _ _, hx⟩]
    have f1 : Fr (S 0 4) (hw (hw mi (84 + 3 * S 0 4) 0 a) (84 + 3 * S 0 4) 1 x) mi := fun c h0 h1 h2 => by rw [hw_oo _ _ _ h0, hw_oo _ _ _ h0]
    have k1 : Cl (hw (hw mi (84 + 3 * S 0 4) 0 a) (84 + 3 * S 0 4) 1 x) ml pm S T := Cl_Fr k h5 f1 (by rw [hw_c]; exact hx) (by rw [hw_k _ _ _ (by omega), hw_k _ _ _ (by omega)]; exact (k.2.2.2.2.2.1.2 _ h5).2)
    rw [c_lc k1 ok, bI_i, e_X5_seen_69, if_pos (sg_is h5 _ _ _)]
    generalize hm : hw (hw (hw mi (84 + 3 * S 0 4) 0 a) (84 + 3 * S 0 4) 1 x) (84 + 3 * S 0 4) 2 (nI (S 5 24 - 1)) = m2
    have fr : Fr (S 0 4) m2 mi := fun c h0 h1 h2 => by rw [← hm, hw_oo _ _ _ h0]; exact f1 c h0 h1 h2
    have e1 : m2 (84 + 3 * S 0 4) 1 = x := by rw [← hm, hw_k _ _ _ (by omega), hw_c]
    have e2 : m2 (84 + 3 * S 0 4) 2 = nI (S 5 24 - 1) := by rw [← hm, hw_c]
    have k2 : Cl m2 ml pm S T := Cl_Fr k h5 fr (by rw [e1]; exact hx) ⟨_, by omega, e2⟩
    obtain ⟨m, r1, r2, r3, r4⟩ := c_seen75 a b h5 ok rfl (S 5 24 - 1) 0 m2 (by omega) k2 e2
    refine ⟨_, _, _, r1, ?_, ?_, rfl⟩
    · refine Cl_E k (hw_c _ _ _ _) (fun j hj => ?_) (fun c h1 h2 => ?_) (fun j hj => ?_)
      · rw [hw_k _ _ _ hj, r2 0 (by omega) (by omega) (by omega), fr 0 (by omega) (by omega) (by omega)]
      · rw [hw_oo _ _ _ (by omega), r2 c (by omega) (by omega) (by omega), fr c (by omega) (by omega) (by omega)]
      · rw [hw_oo _ _ _ (by omega)]
        by_cases q : j = S 0 4
        · rw [q, r3, r4, e1, e2]; exact ⟨hx, _, by omega, rfl⟩
        · rw [r2 _ (by omega) (by omega) (by omega), fr _ (by omega) (by omega) (by omega)]; exact k.2.2.2.2.2.1.2 j hj
    · intro c hc
      rw [hw_oo _ _ _ (by omega), r2 c (by omega) (by omega) (by omega), fr c (by omega) (by omega) (by omega)]
  rw [e_X5_seen_16, if_neg ht, c_sn k, lit_nI 5, if_pos (ylt h5 (by omega)), if_pos (in_nI h5 (by omega)), cl_nI (by omega), (sg_x pm h5).1, Option.bind_some, if_pos (sg_is h5 _ _ _)]
  split
  · exact key 1 (Or.inr rfl)
  · exact key 0 (Or.inl rfl)
end V8
theorem b_seen {S : pS} (ok : Ok S) (T : Int64) (a b : Int32) : ∃ v S' T', Both (f_X5_seen [.ref 0, .int a, .int b]) (f_X6_seen [.ref 99, .int a, .int b]) S T v S' T' := by
  by_cases h : wi3 a 1 99 = 0
  · refine ⟨-1, S, T, Both_q ok (fun mi ml pm k => ?_) (fun mi ml pm k => ?_)⟩
    · rw [e_X5_seen, x5_isWithin, bI_i, e_X5_seen_7, if_pos h]
    · rw [e_X6_seen, x6_in, bI_i, e_X6_seen_12, if_pos h]
  by_cases h2 : wi3 b 0 1 = 0
  · refine ⟨-1, S, T, Both_q ok (fun mi ml pm k => ?_) (fun mi ml pm k => ?_)⟩
    · rw [e_X5_seen, x5_isWithin, bI_i, e_X5_seen_7, if_neg h, x5_isWithin, bI_i, e_X5_seen_16, if_pos h2]
    · rw [e_X6_seen, x6_in, bI_i, e_X6_seen_12, if_neg h, x6_in, bI_i, e_X6_seen_21, if_pos h2]
  have o5 : S 0 4 ≤ 5 := ok.2.2.2.2.2
  by_cases h5 : S 0 4 = 5
  · refine ⟨-3, S, T, Both_q ok (fun mi ml pm k => ?_) (fun mi ml pm k => ?_)⟩
    · rw [e_X5_seen, x5_isWithin, bI_i, e_X5_seen_7, if_neg h, x5_isWithin, bI_i, e_X5_seen_16, if_neg h2, c_sn k, h5, if_neg (by decide)]
    · have k' := Ml_th (0 : Int32) k
      rw [e_X6_seen, x6_in, bI_i, e_X6_seen_12, if_neg h, x6_in, bI_i, e_X6_seen_21, if_neg h2, m_sn k', h5, if_pos (by decide)]
  · refine ⟨nI (S 0 4 + 1), sset S 0 4 (S 0 4 + 1), T, fun mi ml pm k => ?_, fun mi ml pm k => ?_, Ok_E ok (by omega)⟩
    · rw [e_X5_seen, x5_isWithin, bI_i, e_X5_seen_7, if_neg h, x5_isWithin, bI_i]
      exact c_seen16 k ok _ _ _ h2 (by omega)
    · have k' := Ml_th (0 : Int32) k
      rw [e_X6_seen, x6_in, bI_i, e_X6_seen_12, if_neg h, x6_in, bI_i, e_X6_seen_21, if_neg h2, m_sn k', lit_nI 5, if_neg (fun q => h5 ((eq_nI (by omega) (by omega)).mp q)), if_pos (in_nI (by omega) (by omega)), if_pos (in_nI (by omega) (by omega)), nI_1]
      refine ⟨_, _, rfl, Ml_E ok k' (hw_c _ _ _ _) (fun j hj => by rw [hw_k _ _ _ hj, hw_o _ _ _ _ (by omega), hw_o _ _ _ _ (by omega)]) (fun c _ h1 h2 => by rw [hw_oo _ _ _ (by omega), hw_oo _ _ _ (by omega), hw_oo _ _ _ (by omega)]), fun c hc => by rw [hw_oo _ _ _ (by omega), hw_oo _ _ _ (by omega), hw_oo _ _ _ (by omega), hw_oo _ _ _ (by omega)], rfl⟩
section V9
variable {mi : hM} {ml : Nat → Nat → Int64} {pm : Nat → Option Nat} {S : pS} {T : Int64}
theorem c_str (a b c : Int32) : ∃ z, f_X5_strength [.int a, .int b, .int c] (hG mi ml pm) = some (some (.int z), hG mi ml pm) := by
  rw [e_X5_strength]; exact ⟨_, rfl⟩
theorem c_tears (k : Cl mi ml pm S T) {i : Nat} (hi : i < 5) (w : Int32) : ∃ v, f_X2_tearsBy [.ref (84 + 3 * i), .int w] (hG mi ml pm) = some (some (.int v), hG mi ml pm) := by
  obtain ⟨l, hl, e2⟩ := (k.2.2.2.2.2.1.2 i hi).2
  have key : ∀ d j, j + d = l → ∃ v, w_X2_tearsBy_2 (84 + 3 * i) w (nI j) (hG mi ml pm) = some (some (.int v), hG mi ml pm) := by
    intro d
    induction d with
    | zero =>
      intro j hj
      rw [e_X2_tearsBy_2, if_pos (sg_is hi _ _ _), e2, if_pos (yle (by omega) (by omega))]
      exact ⟨_, rfl⟩
    | succ d ih =>
      intro j hj
      rw [e_X2_tearsBy_2, if_pos (sg_is hi _ _ _), e2, if_neg (nle (by omega) (by omega)), if_pos (sg_is hi _ _ _), (sg_x pm hi).2.1, Option.bind_some, if_pos (sg_a1 hi (by omega) _ _ _), if_pos (sg_is hi _ _ _), (sg_x pm hi).2.2, Option.bind_some, if_pos (sg_a2 hi (by omega) _ _ _)]
      obtain ⟨z, hz⟩ := c_str (mi := mi) (ml := ml) (pm := pm) (mi (84 + 3 * i + 1) (Int32.toNatClampNeg (nI j))) w (mi (84 + 3 * i + 2) (Int32.toNatClampNeg (nI j)))
      rw [hz, bI_i, e_X2_tearsBy_26, if_pos (sg_is hi _ _ _), nI_1]
      split
      · exact ih (j + 1) (by omega)
      · exact ⟨_, rfl⟩
  rw [e_X2_tearsBy]
  exact key l 0 (by omega)
theorem c_agrees (k : Cl mi ml pm S T) (ok : Ok S) (w : Int32) : ∃ v, f_X5_agreesWithAllSeen [.ref 0, .int w] (hG mi ml pm) = some (some (.int v), hG mi ml pm) := by
  have o5 : S 0 4 ≤ 5 := ok.2.2.2.2.2
  have key : ∀ d j, j + d = S 0 4 → ∃ v, w_X5_agreesWithAllSeen_2 w (nI j) (hG mi ml pm) = some (some (.int v), hG mi ml pm) := by
    intro d
    induction d with
    | zero =>
      intro j hj
      rw [e_X5_agreesWithAllSeen_2, c_sn k, if_pos (yle (by omega) (by omega))]
      exact ⟨_, rfl⟩
    | succ d ih =>
      intro j hj
      obtain ⟨v, hv⟩ := c_tears k (i := j) (by omega) w
      rw [e_X5_agreesWithAllSeen_2, c_sn k, if_neg (nle (by omega) (by omega)), if_pos (in_nI (by omega) (by omega)), cl_nI (by omega), (sg_x pm (show j < 5 by omega)).1, Option.bind_some, if_pos (sg_is (by omega) _ _ _), hv, bI_i, e_X5_agreesWithAllSeen_20, if_pos (in_nI (by omega) (by omega)), cl_nI (by omega), (sg_x pm (show j < 5 by omega)).1, Option.bind_some, if_pos (sg_is (by omega) _ _ _), nI_1]
      split
      · exact ih (j + 1) (by omega)
      · exact ⟨_, rfl⟩
  rw [e_X5_agreesWithAllSeen]
  exact key (S 0 4) 0 (by omega)
theorem c_wilts (k : Cl mi ml pm S T) (ok : Ok S) : ∃ v, f_X5_wilts [.ref 0] (hG mi ml pm) = some (some (.int v), hG mi ml pm) := by
  have key : ∀ d j a, j + d = 10 → ∃ v, w_X5_wilts_4 a (nI j) (hG mi ml pm) = some (some (.int v), hG mi ml pm) := by
    intro d
    induction d with
    | zero =>
      intro j a hj
      rw [e_X5_wilts_4, lit_nI 9, if_pos (ylt (by omega) (by omega))]
      exact ⟨_, rfl⟩
    | succ d ih =>
      intro j a hj
      obtain ⟨v, hv⟩ := c_agrees k ok (nI j)
      rw [e_X5_wilts_4, lit_nI 9, if_neg (nlt (by omega) (by omega)), hv, bI_i, e_X5_wilts_15, nI_1]
      split
      · exact ih (j + 1) _ (by omega)
      · exact ih (j + 1) _ (by omega)
  rw [e_X5_wilts]
  exact key 10 0 0 (by omega)
theorem m_tears (k : Ml mi ml S T) (ok : Ok S) (v : Int32) {w : Nat} (hw9 : w ≤ 9) : ∃ x, f_X6_tears [.ref 99, .int v, .int (nI w)] (hG mi ml pm) = some (some (.int x), hG mi ml pm) := by
  have F7 := ok.F7
  have n7 := ok.n7
  have key : ∀ d j a, sx_01 a → S 5 24 - 1 = j + d → ∃ x, w_X6_tears_5 v (nI w) a (nI j) (hG mi ml pm) = some (some (.int x), hG mi ml pm) := by
    intro d
    induction d with
    | zero =>
      intro j a ha hj
      rw [e_X6_tears_5, m_s k 24 (by omega), if_pos (nm1_y (by omega) (by omega)), if_pos ha]
      exact ⟨_, rfl⟩
    | succ d ih =>
      intro j a ha hj
      have c := ok.ch (k := j) (by omega)
      have o := ok.pl (f := S 5 (25 + j)) (by omega)
      have o3 := ok.b (j := 3 + S 5 (25 + j)) (by omega)
      rw [e_X6_tears_5, m_s k 24 (by omega), if_neg (nm1_n (by omega) (by omega)), lit_nI 25, nI_add, if_pos (in_nI (by omega) (by omega)), cl_nI (by omega), m_s k _ (by omega), lit_nI 10, lit_nI 17, lit_nI 3, nI_add, nI_add, nI_add, if_pos (in_nI (by omega) (by omega)), if_pos (in_nI (by omega) (by omega)), if_pos (in_nI (by omega) (by omega)), cl_nI (by omega), cl_nI (by omega), cl_nI (by omega), m_s k _ (by omega), m_s k _ (by omega), m_s k _ (by omega), m_holdsBy k ok c o.1 o.2.1 (by omega) hw9, bI_i, e_X6_tears_71, nI_1]
      split
      · split
        · exact ih (j + 1) _ (Or.inl rfl) (by omega)
        · exact ih (j + 1) _ (Or.inr rfl) (by omega)
      · exact ih (j + 1) _ (Or.inr rfl) (by omega)
  rw [e_X6_tears]
  exact key (S 5 24 - 1) 0 0 (Or.inl rfl) (by omega)
theorem m_wilts (k : Ml mi ml S T) (ok : Ok S) : ∃ v, w_X6_wilts_9 0 0 (hG mi ml pm) = some (some (.int v), hG mi ml pm) := by
  have o5 : S 0 4 ≤ 5 := ok.2.2.2.2.2
  have k20 : ∀ (w : Nat), w ≤ 9 → ∀ (a : Int32) d j (f : Int32), j + d = S 0 4 → ∃ a', w_X6_wilts_20 a (nI w) f (nI j) (hG mi ml pm) = w_X6_wilts_9 a' (nI (w + 1)) (hG mi ml pm) := by
    intro w hw9 a d
    induction d with
    | zero =>
      intro j f hj
      rw [e_X6_wilts_20, m_sn k, if_pos (yle (by omega) (by omega)), nI_1]
      split <;> exact ⟨_, rfl⟩
    | succ d ih =>
      intro j f hj
      obtain ⟨x, hx⟩ := m_tears (pm := pm) k ok (mi 109 j) hw9
      rw [e_X6_wilts_20, m_sn k, if_neg (nle (by omega) (by omega)), nI_1]
      split
      · exact ih (j + 1) _ (by omega)
      · rw [if_pos (in_nI (by omega) (by omega)), cl_nI (by omega), hx, bI_i, e_X6_wilts_45, if_pos (in_nI (by omega) (by omega)), e_X6_wilts_61, e_X6_wilts_61, nI_1]
        split
        · split
          · exact ih (j + 1) _ (by omega)
          · exact ih (j + 1) _ (by omega)
        · split
          · exact ih (j + 1) _ (by omega)
          · exact ih (j + 1) _ (by omega)
  have key : ∀ d j a, j + d = 10 → ∃ v, w_X6_wilts_9 a (nI j) (hG mi ml pm) = some (some (.int v), hG mi ml pm) := by
    intro d
    induction d with
    | zero =>
      intro j a hj
      rw [e_X6_wilts_9, lit_nI 10, if_pos (yle (by omega) (by omega))]
      exact ⟨_, rfl⟩
    | succ d ih =>
      intro j a hj
      rw [e_X6_wilts_9, lit_nI 10, if_neg (nle (by omega) (by omega))]
      obtain ⟨a', e⟩ := k20 j (by omega) a (S 0 4) 0 1 (by omega)
      rw [show (0 : Int32) = nI 0 from rfl, e]
      exact ih (j + 1) _ (by omega)
  exact key 10 0 0 (by omega)
end V9
theorem b_wilts {S : pS} (ok : Ok S) (T : Int64) : (∀ (mi : hM) (ml : Nat → Nat → Int64) (pm : Nat → Option Nat), Cl mi ml pm S T → ∃ v, CO mi ml (f_X5_wilts [.ref 0] (hG mi ml pm)) v S T) ∧ (∀ (mi : hM) (ml : Nat → Nat → Int64) (pm : Nat → Option Nat), Ml mi ml S T → ∃ v, MO mi ml pm (f_X6_wilts [.ref 99] (hG mi ml pm)) v S T) := by
  refine ⟨fun mi ml pm k => ?_, fun mi ml pm k => ?_⟩
  · obtain ⟨v, e⟩ := c_wilts k ok
    exact ⟨v, CO_q k e⟩
  · obtain ⟨v, e⟩ := m_wilts (pm := pm) (Ml_th (0 : Int32) k) ok
    exact ⟨v, MO_q k (by rw [e_X6_wilts]; exact e)⟩
