/-! one item of a text -/
def nok (L : Nat → Nat) (n a lo hi : Nat) : Bool := decide (tkd L n a = 4 ∧ lo ≤ tvl L n a ∧ tvl L n a ≤ hi)
def put3 (D : pS) (F x y z : Nat) : pS := sset (sset (sset D 2 F x) 3 F y) 4 F z
/-- an item at a, with F flowers, a wilt, whether it is told, and the flowers' numbers: it fails at a place or goes on -/
def itm {α : Type} (L : Nat → Nat) (n a F w wt : Nat) (D : pS) (fail : Nat → α) (succ : Nat → Nat → Nat → Nat → pS → α) : α :=
  if tkd L n a = 1 then
    (if 7 ≤ F then fail (tpl L n a) else
      if nok L n (tnx L n a) 1 9 = true then
        (if nok L n (tnx L n (tnx L n a)) 1 30 = true then
          (if nok L n (tnx L n (tnx L n (tnx L n a))) 1 60 = true then
            (if tkd L n (tnx L n (tnx L n (tnx L n (tnx L n a)))) = 3 then succ (tnx L n (tnx L n (tnx L n (tnx L n (tnx L n a))))) (F + 1) w wt (put3 D F (tvl L n (tnx L n a)) (tvl L n (tnx L n (tnx L n a))) (tvl L n (tnx L n (tnx L n (tnx L n a)))))
            else fail (tpl L n (tnx L n (tnx L n (tnx L n (tnx L n a))))))
          else fail (tpl L n (tnx L n (tnx L n (tnx L n a)))))
        else fail (tpl L n (tnx L n (tnx L n a))))
      else fail (tpl L n (tnx L n a)))
  else if tkd L n a = 2 then
    (if wt = 0 then
      (if nok L n (tnx L n a) 0 9 = true then
        (if tkd L n (tnx L n (tnx L n a)) = 3 then succ (tnx L n (tnx L n (tnx L n a))) F (tvl L n (tnx L n a)) 1 D
        else fail (tpl L n (tnx L n (tnx L n a))))
      else fail (tpl L n (tnx L n a)))
    else fail (tpl L n a))
  else fail (tpl L n a)
theorem itm_c {α : Type} {C : α → Prop} {L : Nat → Nat} {n a F w wt : Nat} {D : pS} {A A' : Nat → Prop} {B B' : Nat → Nat → Nat → Nat → pS → Prop} {f : Nat → α} {s : Nat → Nat → Nat → Nat → pS → α} (h : itm L n a F w wt D A B) (h' : itm L n a F w wt D A' B') (hA : ∀ q, A q → A' q → C (f q)) (hB : ∀ a1 F1 w1 t1 D1, B a1 F1 w1 t1 D1 → B' a1 F1 w1 t1 D1 → C (s a1 F1 w1 t1 D1)) : C (itm L n a F w wt D f s) := by
  unfold itm at h h' ⊢
  by_cases c1 : tkd L n a = 1
  · rw [if_pos c1] at h h' ⊢
    by_cases c2 : 7 ≤ F
    · rw [if_pos c2] at h h' ⊢; exact hA _ h h'
    · rw [if_neg c2] at h h' ⊢
      by_cases c3 : nok L n (tnx L n a) 1 9 = true
      · rw [if_pos c3] at h h' ⊢
        by_cases c4 : nok L n (tnx L n (tnx L n a)) 1 30 = true
        · rw [if_pos c4] at h h' ⊢
          by_cases c5 : nok L n (tnx L n (tnx L n (tnx L n a))) 1 60 = true
          · rw [if_pos c5] at h h' ⊢
            by_cases c6 : tkd L n (tnx L n (tnx L n (tnx L n (tnx L n a)))) = 3
            · rw [if_pos c6] at h h' ⊢; exact hB _ _ _ _ _ h h'
            · rw [if_neg c6] at h h' ⊢; exact hA _ h h'
          · rw [if_neg c5] at h h' ⊢; exact hA _ h h'
        · rw [if_neg c4] at h h' ⊢; exact hA _ h h'
      · rw [if_neg c3] at h h' ⊢; exact hA _ h h'
  · rw [if_neg c1] at h h' ⊢
    by_cases c2 : tkd L n a = 2
    · rw [if_pos c2] at h h' ⊢
      by_cases c3 : wt = 0
      · rw [if_pos c3] at h h' ⊢
        by_cases c4 : nok L n (tnx L n a) 0 9 = true
        · rw [if_pos c4] at h h' ⊢
          by_cases c5 : tkd L n (tnx L n (tnx L n a)) = 3
          · rw [if_pos c5] at h h' ⊢; exact hB _ _ _ _ _ h h'
          · rw [if_neg c5] at h h' ⊢; exact hA _ h h'
        · rw [if_neg c4] at h h' ⊢; exact hA _ h h'
      · rw [if_neg c3] at h h' ⊢; exact hA _ h h'
    · rw [if_neg c2] at h h' ⊢; exact hA _ h h'
def DB (F : Nat) (D : pS) : Prop := ∀ f, f < F → (1 ≤ D 2 f ∧ D 2 f ≤ 9) ∧ (1 ≤ D 3 f ∧ D 3 f ≤ 30) ∧ 1 ≤ D 4 f ∧ D 4 f ≤ 60
theorem put_2 (D : pS) (F x y z f : Nat) : put3 D F x y z 2 f = if f = F then x else D 2 f := by
  unfold put3; rw [sset_o _ _ _ (by omega), sset_o _ _ _ (by omega)]; unfold sset; rw [if_pos rfl]
theorem put_3 (D : pS) (F x y z f : Nat) : put3 D F x y z 3 f = if f = F then y else D 3 f := by
  unfold put3; rw [sset_o _ _ _ (by omega)]
  show (if 3 = 3 then (if f = F then y else sset D 2 F x 3 f) else _) = _
  rw [if_pos rfl, sset_o _ _ _ (by omega)]
theorem put_4 (D : pS) (F x y z f : Nat) : put3 D F x y z 4 f = if f = F then z else D 4 f := by
  unfold put3
  by_cases q : f = F
  · rw [q, sset_c, if_pos rfl]
  · rw [sset_k _ _ _ q, sset_o _ _ _ (by omega), sset_o _ _ _ (by omega), if_neg q]
theorem itm_pure {L : Nat → Nat} {n a F w wt : Nat} {D : pS} (ha : a ≤ n) (hF : F ≤ 7) (hw9 : w ≤ 9) (ht : wt ≤ 1) (hD : DB F D) (hk : ¬ tkd L n a = 0) : itm L n a F w wt D (fun q => q ≤ n) (fun a1 F1 w1 t1 D1 => a < a1 ∧ a1 ≤ n ∧ F1 ≤ 7 ∧ w1 ≤ 9 ∧ t1 ≤ 1 ∧ DB F1 D1) := by
  have b1 := tnx_b L ha
  have b2 := tnx_b L b1.2.1
  have b3 := tnx_b L b2.2.1
  have b4 := tnx_b L b3.2.1
  have b5 := tnx_b L b4.2.1
  have p0 := tpl_b L ha
  have p1 := tpl_b L b1.2.1
  have p2 := tpl_b L b2.2.1
  have p3 := tpl_b L b3.2.1
  have p4 := tpl_b L b4.2.1
  have a1 := b1.2.2 hk
  unfold itm
  by_cases c1 : tkd L n a = 1
  · rw [if_pos c1]
    by_cases c2 : 7 ≤ F
    · rw [if_pos c2]; exact p0.2
    · rw [if_neg c2]
      by_cases c3 : nok L n (tnx L n a) 1 9 = true
      · rw [if_pos c3]
        by_cases c4 : nok L n (tnx L n (tnx L n a)) 1 30 = true
        · rw [if_pos c4]
          by_cases c5 : nok L n (tnx L n (tnx L n (tnx L n a))) 1 60 = true
          · rw [if_pos c5]
            by_cases c6 : tkd L n (tnx L n (tnx L n (tnx L n (tnx L n a)))) = 3
            · rw [if_pos c6]
              have d3 := of_decide_eq_true c3
              have d4 := of_decide_eq_true c4
              have d5 := of_decide_eq_true c5
              refine ⟨by omega, b5.2.1, by omega, hw9, ht, fun f hf => ?_⟩
              rw [put_2, put_3, put_4]
              by_cases q : f = F
              · rw [if_pos q, if_pos q, if_pos q]; omega
              · rw [if_neg q, if_neg q, if_neg q]; exact hD f (by omega)
            · rw [if_neg c6]; exact p4.2
          · rw [if_neg c5]; exact p3.2
        · rw [if_neg c4]; exact p2.2
      · rw [if_neg c3]; exact p1.2
  · rw [if_neg c1]
    by_cases c2 : tkd L n a = 2
    · rw [if_pos c2]
      by_cases c3 : wt = 0
      · rw [if_pos c3]
        by_cases c4 : nok L n (tnx L n a) 0 9 = true
        · rw [if_pos c4]
          by_cases c5 : tkd L n (tnx L n (tnx L n a)) = 3
          · rw [if_pos c5]
            have d4 := of_decide_eq_true c4
            exact ⟨by omega, b3.2.1, hF, d4.2.2, by omega, hD⟩
          · rw [if_neg c5]; exact p2.2
        · rw [if_neg c4]; exact p1.2
      · rw [if_neg c3]; exact p0.2
    · rw [if_neg c2]; exact p0.2
/-- what the class's reader leaves alone -/
def FrC (m1 m : hM) : Prop := (∀ c, c = 0 ∨ c = 2 ∨ 6 < c → m1 c = m c) ∧ ∀ j, j < 3 → m1 1 j = m 1 j
theorem FrC_t {m2 m1 m : hM} (h : FrC m2 m1) (h' : FrC m1 m) : FrC m2 m := ⟨fun c hc => by rw [h.1 c hc, h'.1 c hc], fun j hj => by rw [h.2 j hj, h'.2 j hj]⟩
theorem CT_F {m m1 : hM} {L : Nat → Nat} {n : Nat} (h : CT m L n) (f : FrC m1 m) : CT m1 L n := CT_fr h (f.2 1 (by omega)) (f.1 2 (by omega))
/-- the draft -/
def CD (m : hM) (F w wt : Nat) (D : pS) : Prop := m 3 0 = nI F ∧ m 3 1 = nI w ∧ m 1 4 = nI wt ∧ ∀ f, f < F → m 4 f = nI (D 2 f) ∧ m 5 f = nI (D 3 f) ∧ m 6 f = nI (D 4 f)
section I1
variable (ml : Nat → Nat → Int64) (pm : Nat → Option Nat) {L : Nat → Nat} {n : Nat}
theorem wi_ok {x lo hi : Nat} (hx : x ≤ 1000) (hl : lo ≤ 1000) (hh : hi ≤ 1000) : wi3 (nI x) (nI lo) (nI hi) = if lo ≤ x ∧ x ≤ hi then 1 else 0 := by
  unfold wi3
  by_cases a : x < lo
  · rw [if_pos (ylt a (by omega)), if_neg (by omega)]
  · rw [if_neg (nlt (by omega) (by omega))]
    by_cases b : hi < x
    · rw [if_pos (ylt b (by omega)), if_neg (by omega)]
    · rw [if_neg (nlt (by omega) (by omega)), if_pos (by omega)]
theorem c_num {a lo hi : Nat} (ha : a ≤ n) (hl : lo ≤ 1000) (hh : hi ≤ 1000) {m : hM} (ct : CT m L n) (h5 : m 1 5 = nI a) : ∃ m1 : hM, f_X3_readsNumber [.ref 1, .int (nI lo), .int (nI hi)] (hG m ml pm) = some (some (.int (b01 (nok L n a lo hi))), hG m1 ml pm) ∧ m1 1 8 = nI (tpl L n a) ∧ m1 1 5 = nI (tnx L n a) ∧ (nok L n a lo hi = true → m1 1 7 = nI (tvl L n a)) ∧ (∀ j, j < 5 → m1 1 j = m 1 j) ∧ ∀ c, c ≠ 1 → m1 c = m c := by
  obtain ⟨m1, r1, r2, r3, r4, r5, r6, r7⟩ := c_token ml pm ha ct h5
  refine ⟨m1, ?_, r2, r3, fun c => r5 (of_decide_eq_true c).1, r6, r7⟩
  have kl := tkd_le L n a
  rw [e_X3_readsNumber, r1, bV_v, e_X3_readsNumber_4, r4]
  unfold nok
  by_cases q : tkd L n a = 4
  · have v9 := tkd_4 q
    rw [if_pos (show nI (tkd L n a) = 4 by rw [q]; rfl), r5 q, x5_isWithin, bI_i, e_X3_readsNumber_21, wi_ok (by omega) hl hh]
    by_cases c : lo ≤ tvl L n a ∧ tvl L n a ≤ hi
    · rw [if_pos c, if_neg (by decide), decide_eq_true ⟨q, c⟩]; rfl
    · rw [if_neg c, if_pos rfl, decide_eq_false (fun x => c x.2)]; rfl
  · rw [if_neg (show ¬ nI (tkd L n a) = (4 : Int32) from fun c => q ((eq_nI (b := 4) (by omega) (by omega)).mp c)), decide_eq_false (fun x => q x.1)]; rfl
theorem c_end {a : Nat} (ha : a ≤ n) {m : hM} (ct : CT m L n) (h5 : m 1 5 = nI a) : ∃ m1 : hM, f_X3_readsItemEnd [.ref 1] (hG m ml pm) = some (some (.int (b01 (decide (tkd L n a = 3)))), hG m1 ml pm) ∧ m1 1 8 = nI (tpl L n a) ∧ m1 1 5 = nI (tnx L n a) ∧ (∀ j, j < 5 → m1 1 j = m 1 j) ∧ ∀ c, c ≠ 1 → m1 c = m c := by
  obtain ⟨m1, r1, r2, r3, r4, r5, r6, r7⟩ := c_token ml pm ha ct h5
  refine ⟨m1, ?_, r2, r3, r6, r7⟩
  have kl := tkd_le L n a
  rw [e_X3_readsItemEnd, r1, bV_v, e_X3_readsItemEnd_4, r4]
  by_cases q : tkd L n a = 3
  · rw [if_pos (show nI (tkd L n a) = 3 by rw [q]; rfl), decide_eq_true q]; rfl
  · rw [if_neg (show ¬ nI (tkd L n a) = (3 : Int32) from fun c => q ((eq_nI (b := 3) (by omega) (by omega)).mp c)), decide_eq_false q]; rfl
theorem fr1 {m1 m : hM} (h1 : ∀ j, j < 5 → m1 1 j = m 1 j) (h2 : ∀ c, c ≠ 1 → m1 c = m c) : FrC m1 m := ⟨fun c hc => h2 c (by omega), fun j hj => h1 j (by omega)⟩
theorem fr2 (m : hM) {c : Nat} (k : Nat) (v : Int32) (h : 3 ≤ c ∧ c ≤ 6) : FrC (hw m c k v) m := ⟨fun c' hc => hw_oo _ _ _ (by omega), fun j hj => by rw [hw_oo _ _ _ (by omega)]⟩
theorem c_item {a F w wt : Nat} {D : pS} (ha : a ≤ n) (hF : F ≤ 7) (ht : wt ≤ 1) {m : hM} (ct : CT m L n) (h5 : m 1 5 = nI (tnx L n a)) (h6 : m 1 6 = nI (tkd L n a)) (h8 : m 1 8 = nI (tpl L n a)) (cd : CD m F w wt D) :
    ∃ (m1 : hM) (b : Bool), f_X3_readsItem [.ref 1] (hG m ml pm) = some (some (.int (b01 b)), hG m1 ml pm) ∧ FrC m1 m ∧ m1 1 3 = m 1 3 ∧ itm L n a F w wt D (fun q => b = false ∧ m1 1 8 = nI q) (fun a1 F1 w1 t1 D1 => b = true ∧ m1 1 5 = nI a1 ∧ CD m1 F1 w1 t1 D1) := by
  have kl := tkd_le L n a
  have b1 := tnx_b L ha
  have b2 := tnx_b L b1.2.1
  have b3 := tnx_b L b2.2.1
  have b4 := tnx_b L b3.2.1
  rw [e_X3_readsItem, h6]
  by_cases c1 : tkd L n a = 1
  · rw [if_pos (show nI (tkd L n a) = 1 by rw [c1]; rfl), e_X3_readsFlower, cd.1]
    by_cases c2 : 7 ≤ F
    · rw [if_pos (show (7 : Int32) ≤ nI F from yle (a := 7) c2 (by omega)), bI_i, e_X3_readsItem_12, if_pos (Or.inl rfl)]
      refine ⟨m, false, rfl, ⟨fun _ _ => rfl, fun _ _ => rfl⟩, rfl, ?_⟩
      unfold itm; rw [if_pos c1, if_pos c2]; exact ⟨rfl, h8⟩
    · rw [if_neg (show ¬ (7 : Int32) ≤ nI F from fun c => c2 ((le_nI (a := 7) (by omega) (by omega)).mp c))]
      obtain ⟨m2, r1, r2, r3, r4, r5, r6⟩ := c_num ml pm (lo := 1) (hi := 9) b1.2.1 (by omega) (by omega) ct h5
      have f2 := fr1 r5 r6
      rw [lit_nI 1, lit_nI 9, r1, bI_i, e_X3_readsFlower_21]
      cases c3 : nok L n (tnx L n a) 1 9 with
      | false =>
        rw [if_pos (by decide), bI_i, e_X3_readsItem_12, if_pos (Or.inl rfl)]
        refine ⟨m2, false, rfl, f2, r5 3 (by omega), ?_⟩
        unfold itm; rw [if_pos c1, if_neg c2, c3, if_neg (by decide)]; exact ⟨rfl, r2⟩
      | true =>
        rw [if_neg (by decide), if_pos (in_nI (by omega) (by omega)), cl_nI (by omega), r4 c3]
        have f2' := FrC_t (fr2 m2 (c := 4) F (nI (tvl L n (tnx L n a))) (by omega)) f2
        obtain ⟨m3, s1, s2, s3, s4, s5, s6⟩ := c_num ml pm (lo := 1) (hi := 30) b2.2.1 (by omega) (by omega) (m := hw m2 4 F (nI (tvl L n (tnx L n a)))) (CT_F ct f2') (by rw [hw_oo _ _ _ (by omega)]; exact r3)
        have f3 := FrC_t (fr1 s5 s6) f2'
        have i3 : m3 1 3 = m 1 3 := by rw [s5 3 (by omega), hw_oo _ _ _ (by omega), r5 3 (by omega)]
        rw [lit_nI 1, lit_nI 30, s1, bI_i, e_X3_readsFlower_46]
        cases c4 : nok L n (tnx L n (tnx L n a)) 1 30 with
        | false =>
          rw [if_pos (by decide), bI_i, e_X3_readsItem_12, if_pos (Or.inl rfl)]
          refine ⟨m3, false, rfl, f3, i3, ?_⟩
          unfold itm; rw [if_pos c1, if_neg c2, c3, if_pos rfl, c4, if_neg (by decide)]; exact ⟨rfl, s2⟩
        | true =>
          rw [if_neg (by decide), if_pos (in_nI (by omega) (by omega)), cl_nI (by omega), s4 c4]
          have f3' := FrC_t (fr2 m3 (c := 5) F (nI (tvl L n (tnx L n (tnx L n a)))) (by omega)) f3
          obtain ⟨m4, t1, t2, t3, t4, t5, t6⟩ := c_num ml pm (lo := 1) (hi := 60) b3.2.1 (by omega) (by omega) (m := hw m3 5 F (nI (tvl L n (tnx L n (tnx L n a))))) (CT_F ct f3') (by rw [hw_oo _ _ _ (by omega)]; exact s3)
          have f4 := FrC_t (fr1 t5 t6) f3'
          have i4 : m4 1 3 = m 1 3 := by rw [t5 3 (by omega), hw_oo _ _ _ (by omega), i3]
          rw [lit_nI 1, lit_nI 60, t1, bI_i, e_X3_readsFlower_71]
          cases c5 : nok L n (tnx L n (tnx L n (tnx L n a))) 1 60 with
          | false =>
            rw [if_pos (by decide), bI_i, e_X3_readsItem_12, if_pos (Or.inl rfl)]
            refine ⟨m4, false, rfl, f4, i4, ?_⟩
            unfold itm; rw [if_pos c1, if_neg c2, c3, if_pos rfl, c4, if_pos rfl, c5, if_neg (by decide)]; exact ⟨rfl, t2⟩
          | true =>
            have e30 : m4 3 0 = nI F := by rw [t6 3 (by omega), hw_oo _ _ _ (by omega), s6 3 (by omega), hw_oo _ _ _ (by omega), r6 3 (by omega)]; exact cd.1
            rw [if_neg (by decide), if_pos (in_nI (by omega) (by omega)), cl_nI (by omega), t4 c5, e30, nI_1]
            have f4' := FrC_t (fr2 (hw m4 6 F (nI (tvl L n (tnx L n (tnx L n (tnx L n a)))))) (c := 3) 0 (nI (F + 1)) (by omega)) (FrC_t (fr2 m4 (c := 6) F (nI (tvl L n (tnx L n (tnx L n (tnx L n a))))) (by omega)) f4)
            obtain ⟨m5, u1, u2, u3, u5, u6⟩ := c_end ml pm b4.2.1 (m := hw (hw m4 6 F (nI (tvl L n (tnx L n (tnx L n (tnx L n a)))))) 3 0 (nI (F + 1))) (CT_F ct f4') (by rw [hw_oo _ _ _ (by omega), hw_oo _ _ _ (by omega)]; exact t3)
            have f5 := FrC_t (fr1 u5 u6) f4'
            have i5 : m5 1 3 = m 1 3 := by rw [u5 3 (by omega), hw_oo _ _ _ (by omega), hw_oo _ _ _ (by omega), i4]
            rw [u1, bI_i, e_X3_readsFlower_106, if_pos (b01_01 _), bI_i, e_X3_readsItem_12, if_pos (b01_01 _)]
            refine ⟨m5, decide (tkd L n (tnx L n (tnx L n (tnx L n (tnx L n a)))) = 3), rfl, f5, i5, ?_⟩
            unfold itm; rw [if_pos c1, if_neg c2, c3, if_pos rfl, c4, if_pos rfl, c5, if_pos rfl]
            by_cases c6 : tkd L n (tnx L n (tnx L n (tnx L n (tnx L n a)))) = 3
            · rw [if_pos c6]
              refine ⟨decide_eq_true c6, u3, ?_, ?_, ?_, fun f hf => ?_⟩
              · rw [u6 3 (by omega), hw_c]
              · rw [u6 3 (by omega), hw_k _ _ _ (by omega), hw_oo _ _ _ (by omega), t6 3 (by omega), hw_oo _ _ _ (by omega), s6 3 (by omega), hw_oo _ _ _ (by omega), r6 3 (by omega)]; exact cd.2.1
              · rw [u5 4 (by omega), hw_oo _ _ _ (by omega), hw_oo _ _ _ (by omega), t5 4 (by omega), hw_oo _ _ _ (by omega), s5 4 (by omega), hw_oo _ _ _ (by omega), r5 4 (by omega)]; exact cd.2.2.1
              · rw [put_2, put_3, put_4, u6 4 (by omega), u6 5 (by omega), u6 6 (by omega), hw_oo _ _ _ (show 4 ≠ 3 by omega), hw_oo _ _ _ (show 4 ≠ 6 by omega), hw_oo _ _ _ (show 5 ≠ 3 by omega), hw_oo _ _ _ (show 5 ≠ 6 by omega), hw_oo _ _ _ (show 6 ≠ 3 by omega), t6 4 (by omega), t6 5 (by omega), hw_oo _ _ _ (show 4 ≠ 5 by omega), s6 4 (by omega)]
                by_cases q : f = F
                · rw [if_pos q, if_pos q, if_pos q, q, hw_c, hw_c, hw_c]; exact ⟨rfl, rfl, rfl⟩
                · rw [if_neg q, if_neg q, if_neg q, hw_k _ _ _ q, hw_k _ _ _ q, hw_k _ _ _ q, r6 4 (by omega), s6 5 (by omega), hw_oo _ _ _ (show 5 ≠ 4 by omega), r6 5 (by omega), t6 6 (by omega), hw_oo _ _ _ (show 6 ≠ 5 by omega), s6 6 (by omega), hw_oo _ _ _ (show 6 ≠ 4 by omega), r6 6 (by omega)]
                  exact cd.2.2.2 f (by omega)
            · rw [if_neg c6]; exact ⟨decide_eq_false c6, u2⟩
  · rw [if_neg (show ¬ nI (tkd L n a) = (1 : Int32) from fun c => c1 ((eq_nI (b := 1) (by omega) (by omega)).mp c))]
    by_cases c2 : tkd L n a = 2
    · rw [if_pos (show nI (tkd L n a) = 2 by rw [c2]; rfl), e_X3_readsWilt, cd.2.2.1]
      by_cases c3 : wt = 0
      · rw [if_pos (show nI wt = 0 by rw [c3]; rfl)]
        obtain ⟨m2, r1, r2, r3, r4, r5, r6⟩ := c_num ml pm (lo := 0) (hi := 9) b1.2.1 (by omega) (by omega) ct h5
        have f2 := fr1 r5 r6
        rw [lit_nI 0, lit_nI 9, r1, bI_i, e_X3_readsWilt_14]
        cases c4 : nok L n (tnx L n a) 0 9 with
        | false =>
          rw [if_pos (by decide), bI_i, e_X3_readsItem_25, if_pos rfl]
          refine ⟨m2, false, rfl, f2, r5 3 (by omega), ?_⟩
          unfold itm; rw [if_neg c1, if_pos c2, if_pos c3, c4, if_neg (by decide)]; exact ⟨rfl, r2⟩
        | true =>
          rw [if_neg (by decide), r4 c4]
          have f2' : FrC (hw (hw m2 1 4 1) 3 1 (nI (tvl L n (tnx L n a)))) m := FrC_t (fr2 _ 1 _ (by omega)) (FrC_t (⟨fun c hc => hw_oo _ _ _ (by omega), fun j hj => hw_k _ _ _ (by omega)⟩ : FrC (hw m2 1 4 1) m2) f2)
          obtain ⟨m5, u1, u2, u3, u5, u6⟩ := c_end ml pm b2.2.1 (m := hw (hw m2 1 4 1) 3 1 (nI (tvl L n (tnx L n a)))) (CT_F ct f2') (by rw [hw_oo _ _ _ (by omega), hw_k _ _ _ (by omega)]; exact r3)
          have f5 := FrC_t (fr1 u5 u6) f2'
          rw [u1, bI_i, e_X3_readsWilt_39, if_pos (b01_01 _), bI_i, e_X3_readsItem_25]
          refine ⟨m5, decide (tkd L n (tnx L n (tnx L n a)) = 3), ?_, f5, by rw [u5 3 (by omega), hw_oo _ _ _ (by omega), hw_k _ _ _ (by omega), r5 3 (by omega)], ?_⟩
          · cases decide (tkd L n (tnx L n (tnx L n a)) = 3) <;> rfl
          · unfold itm; rw [if_neg c1, if_pos c2, if_pos c3, c4, if_pos rfl]
            by_cases c6 : tkd L n (tnx L n (tnx L n a)) = 3
            · rw [if_pos c6]
              refine ⟨decide_eq_true c6, u3, ?_, ?_, ?_, fun f hf => ?_⟩
              · rw [u6 3 (by omega), hw_k _ _ _ (by omega), hw_oo _ _ _ (by omega), r6 3 (by omega)]; exact cd.1
              · rw [u6 3 (by omega), hw_c]
              · rw [u5 4 (by omega), hw_oo _ _ _ (by omega), hw_c]; rfl
              · rw [u6 4 (by omega), u6 5 (by omega), u6 6 (by omega), hw_oo _ _ _ (by omega), hw_oo _ _ _ (by omega), hw_oo _ _ _ (by omega), hw_oo _ _ _ (by omega), hw_oo _ _ _ (by omega), hw_oo _ _ _ (by omega), r6 4 (by omega), r6 5 (by omega), r6 6 (by omega)]
                exact cd.2.2.2 f hf
            · rw [if_neg c6]; exact ⟨decide_eq_false c6, u2⟩
      · rw [if_neg (nz c3 (by omega)), bI_i, e_X3_readsItem_25, if_pos rfl]
        refine ⟨m, false, rfl, ⟨fun _ _ => rfl, fun _ _ => rfl⟩, rfl, ?_⟩
        unfold itm; rw [if_neg c1, if_pos c2, if_neg c3]; exact ⟨rfl, h8⟩
    · rw [if_neg (show ¬ nI (tkd L n a) = (2 : Int32) from fun c => c2 ((eq_nI (b := 2) (by omega) (by omega)).mp c))]
      refine ⟨m, false, rfl, ⟨fun _ _ => rfl, fun _ _ => rfl⟩, rfl, ?_⟩
      unfold itm; rw [if_neg c1, if_neg c2]; exact ⟨rfl, h8⟩
end I1
