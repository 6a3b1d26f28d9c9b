/-! THE TWO STATES: one table of numbers S, as the class shows it (cells below 99) and as the model shows it (99 and on).
S 0: 0 letters typed, 1 flowers, 2 wilt, 3 undos, 4 seen. S 1: the text. S 2, 3, 4: thick, stalk, petals. S 5: NOW (32 numbers: 0 minute, 1 water, 2 picked, 3 + f dry, 10 + f place, 17 + f length, 24 chained, 25 + k chain). S 6: which images are kept. S (10 + i): undo i. S (20 + i): image i. -/
abbrev pS : Type := Nat → Nat → Nat
def sset (S : pS) (c k v : Nat) : pS := fun c' k' => if c' = c then (if k' = k then v else S c' k') else S c' k'
def srow (S : pS) (c : Nat) (r : Nat → Nat) : pS := fun c' k' => if c' = c then r k' else S c' k'
def dset (d : Nat → Nat) (k v : Nat) : Nat → Nat := fun k' => if k' = k then v else d k'
/-- a Moment of the class at the cells a .. a + 4 -/
def Cm (mi : hM) (a : Nat) (d : Nat → Nat) : Prop :=
  (mi a 0 = nI (d 0) ∧ mi a 1 = nI (d 1) ∧ mi a 2 = nI (d 2) ∧ mi a 7 = nI (d 24)) ∧
  (∀ f, f < 7 → mi (a + 1) f = nI (d (3 + f)) ∧ mi (a + 2) f = nI (d (10 + f)) ∧ mi (a + 3) f = nI (d (17 + f))) ∧
  (∀ k, k < d 24 → mi (a + 4) k = nI (d (25 + k)))
/-- the 32 numbers in the model -/
def Mm (mi : hM) (b o : Nat) (d : Nat → Nat) : Prop := ∀ j, j < 32 → mi b (o + j) = nI (d j)
def ClT (mi : hM) (S : pS) : Prop := mi 1 1 = nI (S 0 0) ∧ ∀ k, k < S 0 0 → mi 2 k = nI (S 1 k)
def ClD (mi : hM) (S : pS) : Prop := mi 7 0 = nI (S 0 1) ∧ mi 7 1 = nI (S 0 2) ∧ ∀ f, f < S 0 1 → mi 8 f = nI (S 2 f) ∧ mi 9 f = nI (S 3 f) ∧ mi 10 f = nI (S 4 f)
def isPa (a : Nat) : Prop := ∃ i, i < 10 ∧ a = 24 + 5 * i
def ClU (mi : hM) (pm : Nat → Option Nat) (S : pS) : Prop := mi 0 4 = nI (S 0 3) ∧ ∃ q : Nat → Nat, (∀ i, i < 10 → pm i = some (q i) ∧ isPa (q i)) ∧ (∀ i j, i < 10 → j < 10 → q i = q j → i = j) ∧ ∀ i, i < S 0 3 → i < 10 → Cm mi (q i) (S (10 + i))
def ClK (mi : hM) (S : pS) : Prop := ∀ i, i < 2 → mi 18 i = nI (S 6 i) ∧ (S 6 i = 1 → Cm mi (74 + 5 * i) (S (20 + i)))
def ClE (mi : hM) (S : pS) : Prop := mi 0 8 = nI (S 0 4) ∧ ∀ i, i < 5 → sx_01 (mi (84 + 3 * i) 1) ∧ ∃ l, l ≤ 7 ∧ mi (84 + 3 * i) 2 = nI l
def Cl (mi : hM) (ml : Nat → Nat → Int64) (pm : Nat → Option Nat) (S : pS) (T : Int64) : Prop := ClT mi S ∧ ClD mi S ∧ Cm mi 11 (S 5) ∧ ClU mi pm S ∧ ClK mi S ∧ ClE mi S ∧ ml 0 11 = T
def Ml (mi : hM) (ml : Nat → Nat → Int64) (S : pS) (T : Int64) : Prop :=
  (mi 99 3 = nI (S 0 0) ∧ ∀ k, k < S 0 0 → mi 100 k = nI (S 1 k)) ∧
  (mi 101 0 = nI (S 0 1) ∧ mi 101 1 = nI (S 0 2) ∧ ∀ f, f < S 0 1 → mi 102 f = nI (S 2 f) ∧ mi 103 f = nI (S 3 f) ∧ mi 104 f = nI (S 4 f)) ∧
  Mm mi 105 0 (S 5) ∧
  (mi 99 18 = nI (S 0 3) ∧ ∀ i, i < S 0 3 → Mm mi 108 (32 * i) (S (10 + i))) ∧
  (∀ i, i < 2 → mi 107 i = nI (S 6 i) ∧ (S 6 i = 1 → Mm mi 106 (32 * i) (S (20 + i)))) ∧
  mi 99 21 = nI (S 0 4) ∧ ml 99 1 = T
/-- what a Moment's numbers may be, with F flowers -/
def Okm (F : Nat) (st : Nat → Nat) (d : Nat → Nat) : Prop :=
  d 0 ≤ 600 ∧ d 1 ≤ 1 ∧ d 2 < 2 ^ F ∧ (∀ f, f < 7 → d (3 + f) ≤ 600 ∧ d (3 + f) ≤ d 0) ∧
  (∀ f, f < 7 → d (10 + f) ≤ 30 ∧ d (17 + f) ≤ 9 ∧ (d (10 + f) = 0 ↔ d (17 + f) = 0)) ∧
  d 24 ≤ F ∧ (∀ k, k < d 24 → d (25 + k) < F ∧ (d 2).testBit (d (25 + k)) = true) ∧
  (∀ i j, i < d 24 → j < d 24 → d (25 + i) = d (25 + j) → i = j) ∧ (∀ j, j < 32 → d j ≤ 600)
def Ok (S : pS) : Prop :=
  (S 0 0 ≤ 200 ∧ ∀ k, k < S 0 0 → S 1 k ≤ 255) ∧
  (S 0 1 ≤ 7 ∧ S 0 2 ≤ 9 ∧ ∀ f, f < S 0 1 → (1 ≤ S 2 f ∧ S 2 f ≤ 9) ∧ (1 ≤ S 3 f ∧ S 3 f ≤ 30) ∧ 1 ≤ S 4 f ∧ S 4 f ≤ 60) ∧
  Okm (S 0 1) (S 3) (S 5) ∧ (S 0 3 ≤ 10 ∧ ∀ i, i < S 0 3 → Okm (S 0 1) (S 3) (S (10 + i))) ∧
  (∀ i, i < 2 → S 6 i ≤ 1 ∧ (S 6 i = 1 → Okm (S 0 1) (S 3) (S (20 + i)))) ∧ S 0 4 ≤ 5
/-- a call of the class: its answer, the table after it, the model's cells left alone -/
def CO (mi : hM) (ml : Nat → Nat → Int64) (r : Option sx_R) (v : Int32) (S : pS) (T : Int64) : Prop := ∃ (m1 : hM) (l1 : Nat → Nat → Int64) (p1 : Nat → Option Nat), r = some (some (.int v), hG m1 l1 p1) ∧ Cl m1 l1 p1 S T ∧ (∀ c, 99 ≤ c → m1 c = mi c) ∧ l1 99 = ml 99
/-- a call of the model -/
def MO (mi : hM) (ml : Nat → Nat → Int64) (pm : Nat → Option Nat) (r : Option sx_R) (v : Int32) (S : pS) (T : Int64) : Prop := ∃ (m1 : hM) (l1 : Nat → Nat → Int64), r = some (some (.int v), hG m1 l1 pm) ∧ Ml m1 l1 S T ∧ (∀ c, c < 99 → m1 c = mi c) ∧ l1 0 = ml 0
theorem Cm_fr {m1 mi : hM} {a : Nat} {d : Nat → Nat} (h : ∀ c, a ≤ c → c ≤ a + 4 → m1 c = mi c) (k : Cm mi a d) : Cm m1 a d := by
  unfold Cm at k ⊢
  rw [h a (by omega) (by omega), h (a + 1) (by omega) (by omega), h (a + 2) (by omega) (by omega), h (a + 3) (by omega) (by omega), h (a + 4) (by omega) (by omega)]
  exact k
theorem Cl_fr {m1 mi : hM} {l1 ml : Nat → Nat → Int64} {pm : Nat → Option Nat} {S : pS} {T : Int64} (h : ∀ c, c < 99 → m1 c = mi c) (hl : l1 0 = ml 0) (k : Cl mi ml pm S T) : Cl m1 l1 pm S T := by
  obtain ⟨⟨t1, t2⟩, ⟨d1, d2, d3⟩, n, ⟨u1, q, u2, u3, u4⟩, kk, ⟨e1, e2⟩, tr⟩ := k
  refine ⟨⟨by rw [h 1 (by omega)]; exact t1, fun k hk => by rw [h 2 (by omega)]; exact t2 k hk⟩, ⟨by rw [h 7 (by omega)]; exact d1, by rw [h 7 (by omega)]; exact d2, fun f hf => by rw [h 8 (by omega), h 9 (by omega), h 10 (by omega)]; exact d3 f hf⟩, Cm_fr (fun c _ h2 => h c (by omega)) n, ⟨by rw [h 0 (by omega)]; exact u1, q, u2, u3, fun i hi h10 => ?_⟩, fun i hi => ⟨by rw [h 18 (by omega)]; exact (kk i hi).1, fun e => Cm_fr (fun c _ h2 => h c (by omega)) ((kk i hi).2 e)⟩, ⟨by rw [h 0 (by omega)]; exact e1, fun i hi => by rw [h _ (by omega)]; exact e2 i hi⟩, by rw [hl]; exact tr⟩
  obtain ⟨j, hj, e⟩ := (u2 i h10).2
  exact Cm_fr (fun c _ h2 => h c (by omega)) (u4 i hi h10)
theorem Ml_fr {m1 mi : hM} {l1 ml : Nat → Nat → Int64} {S : pS} {T : Int64} (h : ∀ c, 99 ≤ c → m1 c = mi c) (hl : l1 99 = ml 99) (k : Ml mi ml S T) : Ml m1 l1 S T := by
  unfold Ml Mm at k ⊢
  rw [h 99 (by omega), h 100 (by omega), h 101 (by omega), h 102 (by omega), h 103 (by omega), h 104 (by omega), h 105 (by omega), h 106 (by omega), h 107 (by omega), h 108 (by omega), hl]
  exact k
