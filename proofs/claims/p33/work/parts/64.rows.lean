/-! rows of flowers, pure -/
def del (s f : Nat) : Nat := s &&& (127 ^^^ 2 ^ f)
theorem tb7 {s g : Nat} (hs : s < 128) (h : s.testBit g = true) : g < 7 := by
  rcases Nat.lt_or_ge g 7 with q | q
  · exact q
  · have h1 : 2 ^ 7 ≤ 2 ^ g := Nat.pow_le_pow_right (by omega) q
    rw [Nat.testBit_lt_two_pow (Nat.lt_of_lt_of_le hs h1)] at h
    cases h
theorem del_lt {s : Nat} (f : Nat) (hs : s < 128) : del s f < 128 := Nat.lt_of_le_of_lt Nat.and_le_left hs
theorem del_t {s f g : Nat} (hs : s < 128) : (del s f).testBit g = true ↔ s.testBit g = true ∧ g ≠ f := by
  unfold del
  rw [Nat.testBit_and, Nat.testBit_xor, show (127 : Nat) = 2 ^ 7 - 1 from rfl, Nat.testBit_two_pow_sub_one, Nat.testBit_two_pow, Bool.and_eq_true]
  constructor
  · intro ⟨h1, h2⟩
    refine ⟨h1, fun e => ?_⟩
    have g7 := tb7 hs h1
    rw [decide_eq_true g7, decide_eq_true (show f = g from e.symm)] at h2
    cases h2
  · intro ⟨h1, h2⟩
    refine ⟨h1, ?_⟩
    have g7 := tb7 hs h1
    rw [decide_eq_true g7, decide_eq_false (show ¬ f = g from fun e => h2 e.symm)]; rfl
theorem del_i : ∀ s, s < 128 → ∀ f, f < 7 → nI s &&& (((1 : Int32) <<< (nI f &&& 31)) ^^^ (-1)) = nI (del s f) := by decide +kernel
theorem sub_i : ∀ s, s < 128 → ∀ p, p < 128 → decide ((nI s &&& (nI p ^^^ (-1))) = 0) = decide (s &&& p = s) := by decide +kernel
theorem pc_d : ∀ s, s < 128 → ∀ f, f < 7 → s.testBit f = true → pc (del s f) + 1 = pc s := by decide +kernel
theorem sub_t {s p : Nat} : s &&& p = s ↔ ∀ g, s.testBit g = true → p.testBit g = true := by
  constructor
  · intro h g hg
    rw [← h, Nat.testBit_and, Bool.and_eq_true] at hg
    exact hg.2
  · intro h
    apply Nat.eq_of_testBit_eq
    intro g
    rw [Nat.testBit_and]
    cases q : s.testBit g with
    | false => rfl
    | true => rw [h g q]; rfl
theorem sub_0 {s p : Nat} (hs : s < 128) (hp : p < 128) : ((nI s &&& (nI p ^^^ (-1))) = 0) ↔ ∀ g, s.testBit g = true → p.testBit g = true := by
  have h := sub_i s hs p hp
  rw [← sub_t]
  constructor
  · intro c; rw [decide_eq_true c] at h; exact of_decide_eq_true h.symm
  · intro c; rw [decide_eq_true c] at h; exact of_decide_eq_true h
theorem sumN_f (g : Nat → Nat) (n : Nat) : sumN g (n + 1) = g 0 + sumN (fun i => g (i + 1)) n := by
  induction n with
  | zero => show 0 + g 0 = g 0 + 0; omega
  | succ n ih =>
    show sumN g (n + 1) + g (n + 1) = g 0 + (sumN (fun i => g (i + 1)) n + g (n + 1))
    rw [ih]; omega
section R1
variable (P : Nat) (B : Nat → Nat → Nat) (st : Nat → Nat)
def sV (r : Nat → Nat) (k : Nat) : Nat := sumN (fun i => B (r i) (r (i + 1))) (k - 1)
def sW (r : Nat → Nat) (k : Nat) : Nat := sV B r k + st (r (k - 1))
def Row (k : Nat) (r : Nat → Nat) : Prop := (∀ i, i < k → P.testBit (r i) = true) ∧ (∀ i j, i < k → j < k → r i = r j → i = j) ∧ ∀ i, i + 1 < k → 0 < B (r i) (r (i + 1))
def isS (s k : Nat) (r : Nat → Nat) : Prop := ∀ g, s.testBit g = true ↔ ∃ i, i < k ∧ r i = g
def shR (r : Nat → Nat) : Nat → Nat := fun i => r (i + 1)
def coR (f : Nat) (r : Nat → Nat) : Nat → Nat := fun i => if i = 0 then f else r (i - 1)
def enR (r : Nat → Nat) (k f : Nat) : Nat → Nat := fun i => if i = k then f else r i
variable {P B st}
theorem coR_s (f : Nat) (r : Nat → Nat) (i : Nat) : coR f r (i + 1) = r i := by unfold coR; rw [if_neg (by omega), Nat.add_sub_cancel]
theorem sW_f {r : Nat → Nat} {k : Nat} : sW B st r (k + 2) = B (r 0) (r 1) + sW B st (shR r) (k + 1) := by
  unfold sW sV
  rw [show k + 2 - 1 = k + 1 from rfl, show k + 1 - 1 = k from rfl, sumN_f]
  show B (r 0) (r 1) + sumN (fun i => B (r (i + 1)) (r (i + 1 + 1))) k + st (r (k + 1)) = B (r 0) (r 1) + (sumN (fun i => B (shR r i) (shR r (i + 1))) k + st (shR r k))
  rw [Nat.add_assoc]; rfl
theorem sW_1 (r : Nat → Nat) : sW B st r 1 = st (r 0) := by
  show 0 + st (r 0) = _
  omega
theorem sV_s {r : Nat → Nat} {k : Nat} : sV B r (k + 2) = sV B r (k + 1) + B (r k) (r (k + 1)) := rfl
theorem Row_sh {r : Nat → Nat} {k : Nat} (h : Row P B (k + 1) r) : Row P B k (shR r) :=
  ⟨fun i hi => h.1 (i + 1) (by omega), fun i j hi hj e => by have := h.2.1 (i + 1) (j + 1) (by omega) (by omega) e; omega, fun i hi => h.2.2 (i + 1) (by omega)⟩
theorem Row_le {r : Nat → Nat} {k k' : Nat} (h : Row P B k r) (hk : k' ≤ k) : Row P B k' r :=
  ⟨fun i hi => h.1 i (by omega), fun i j hi hj e => h.2.1 i j (by omega) (by omega) e, fun i hi => h.2.2 i (by omega)⟩
theorem Row_e {r r' : Nat → Nat} {k : Nat} (h : Row P B k r) (e : ∀ i, i < k → r' i = r i) : Row P B k r' :=
  ⟨fun i hi => by rw [e i hi]; exact h.1 i hi, fun i j hi hj c => by rw [e i hi, e j hj] at c; exact h.2.1 i j hi hj c, fun i hi => by rw [e i (by omega), e (i + 1) hi]; exact h.2.2 i hi⟩
theorem sW_e {r r' : Nat → Nat} {k : Nat} (hk : 0 < k) (e : ∀ i, i < k → r' i = r i) : sW B st r' k = sW B st r k := by
  unfold sW sV
  rw [e (k - 1) (by omega), sumN_e (g' := fun i => B (r i) (r (i + 1))) (fun i hi => by
    show B (r' i) (r' (i + 1)) = B (r i) (r (i + 1))
    rw [e i (by omega), e (i + 1) (by omega)])]
theorem sV_e {r r' : Nat → Nat} {k : Nat} (hk : 0 < k) (e : ∀ i, i < k → r' i = r i) : sV B r' k = sV B r k := by
  unfold sV
  exact sumN_e (fun i hi => by
    show B (r' i) (r' (i + 1)) = B (r i) (r (i + 1))
    rw [e i (by omega), e (i + 1) (by omega)])
theorem Row_co {f k : Nat} {r : Nat → Nat} (h : Row P B (k + 1) r) (hf : P.testBit f = true) (hn : ∀ i, i < k + 1 → r i ≠ f) (hb : 0 < B f (r 0)) : Row P B (k + 2) (coR f r) := by
  refine ⟨fun i hi => ?_, fun i j hi hj e => ?_, fun i hi => ?_⟩
  · cases i with
    | zero => exact hf
    | succ i => rw [coR_s]; exact h.1 i (by omega)
  · cases i with
    | zero =>
      cases j with
      | zero => rfl
      | succ j => rw [coR_s] at e; exact absurd e.symm (hn j (by omega))
    | succ i =>
      cases j with
      | zero => rw [coR_s] at e; exact absurd e (hn i (by omega))
      | succ j => rw [coR_s, coR_s] at e; have := h.2.1 i j (by omega) (by omega) e; omega
  · cases i with
    | zero => rw [coR_s]; exact hb
    | succ i => rw [coR_s, coR_s]; exact h.2.2 i (by omega)
theorem Row_en {f k : Nat} {r : Nat → Nat} (h : Row P B (k + 1) r) (hf : P.testBit f = true) (hn : ∀ i, i < k + 1 → r i ≠ f) (hb : 0 < B (r k) f) : Row P B (k + 2) (enR r (k + 1) f) := by
  have e1 : enR r (k + 1) f (k + 1) = f := by unfold enR; rw [if_pos rfl]
  have e2 : ∀ i, i < k + 1 → enR r (k + 1) f i = r i := fun i hi => by unfold enR; rw [if_neg (by omega)]
  refine ⟨fun i hi => ?_, fun i j hi hj e => ?_, fun i hi => ?_⟩
  · by_cases q : i = k + 1
    · rw [q, e1]; exact hf
    · rw [e2 i (by omega)]; exact h.1 i (by omega)
  · by_cases q : i = k + 1 <;> by_cases q' : j = k + 1
    · omega
    · rw [q, e1, e2 j (by omega)] at e; exact absurd e.symm (hn j (by omega))
    · rw [q', e1, e2 i (by omega)] at e; exact absurd e (hn i (by omega))
    · rw [e2 i (by omega), e2 j (by omega)] at e; exact h.2.1 i j (by omega) (by omega) e
  · by_cases q : i = k
    · rw [q, e1, e2 k (by omega)]; exact hb
    · rw [e2 i (by omega), e2 (i + 1) (by omega)]; exact h.2.2 i (by omega)
theorem isS_sh {s k : Nat} {r : Nat → Nat} (hs : s < 128) (h : Row P B (k + 1) r) (hS : isS s (k + 1) r) : isS (del s (r 0)) k (shR r) := by
  intro g
  rw [del_t hs, hS g]
  constructor
  · rintro ⟨⟨i, hi, e⟩, hne⟩
    cases i with
    | zero => exact absurd e.symm hne
    | succ i => exact ⟨i, by omega, e⟩
  · rintro ⟨i, hi, e⟩
    refine ⟨⟨i + 1, by omega, e⟩, fun c => ?_⟩
    have := h.2.1 (i + 1) 0 (by omega) (by omega) (e.trans c)
    omega
theorem isS_co {s f k : Nat} {r : Nat → Nat} (hs : s < 128) (hf : s.testBit f = true) (hS : isS (del s f) k r) : isS s (k + 1) (coR f r) := by
  intro g
  constructor
  · intro hg
    by_cases q : g = f
    · exact ⟨0, by omega, q.symm⟩
    · obtain ⟨i, hi, e⟩ := (hS g).mp ((del_t hs).mpr ⟨hg, q⟩)
      exact ⟨i + 1, by omega, by rw [coR_s]; exact e⟩
  · rintro ⟨i, hi, e⟩
    cases i with
    | zero => rw [← show f = g from e]; exact hf
    | succ i =>
      rw [coR_s] at e
      exact ((del_t hs).mp ((hS g).mpr ⟨i, by omega, e⟩)).1
theorem isS_la {s k : Nat} {r : Nat → Nat} (hs : s < 128) (h : Row P B (k + 1) r) (hS : isS s (k + 1) r) : isS (del s (r k)) k r := by
  intro g
  rw [del_t hs, hS g]
  constructor
  · rintro ⟨⟨i, hi, e⟩, hne⟩
    by_cases q : i = k
    · rw [q] at e; exact absurd e.symm hne
    · exact ⟨i, by omega, e⟩
  · rintro ⟨i, hi, e⟩
    refine ⟨⟨i, by omega, e⟩, fun c => ?_⟩
    have := h.2.1 i k (by omega) (by omega) (e.trans c)
    omega
theorem isS_en {s f k : Nat} {r : Nat → Nat} (hs : s < 128) (hf : s.testBit f = true) (hS : isS (del s f) k r) : isS s (k + 1) (enR r k f) := by
  have e1 : enR r k f k = f := by unfold enR; rw [if_pos rfl]
  have e2 : ∀ i, i < k → enR r k f i = r i := fun i hi => by unfold enR; rw [if_neg (by omega)]
  intro g
  constructor
  · intro hg
    by_cases q : g = f
    · exact ⟨k, by omega, by rw [e1, q]⟩
    · obtain ⟨i, hi, e⟩ := (hS g).mp ((del_t hs).mpr ⟨hg, q⟩)
      exact ⟨i, by omega, by rw [e2 i hi]; exact e⟩
  · rintro ⟨i, hi, e⟩
    by_cases q : i = k
    · rw [q, e1] at e; rw [← e]; exact hf
    · rw [e2 i (by omega)] at e
      exact ((del_t hs).mp ((hS g).mpr ⟨i, by omega, e⟩)).1
theorem isS_pc {r : Nat → Nat} : ∀ {k s : Nat}, s < 128 → Row P B k r → isS s k r → pc s = k := by
  intro k
  induction k with
  | zero =>
    intro s hs _ hS
    have : s = 0 := by
      apply Nat.eq_of_testBit_eq
      intro g
      rw [Nat.zero_testBit]
      cases q : s.testBit g with
      | false => rfl
      | true => obtain ⟨i, hi, _⟩ := (hS g).mp q; omega
    rw [this]; rfl
  | succ k ih =>
    intro s hs h hS
    have hb : s.testBit (r k) = true := (hS (r k)).mpr ⟨k, by omega, rfl⟩
    have := ih (del_lt _ hs) (Row_le h (by omega)) (isS_la hs h hS)
    have := pc_d s hs (r k) (tb7 hs hb) hb
    omega
def setN (r : Nat → Nat) : Nat → Nat
  | 0 => 0
  | k + 1 => setN r k ||| 2 ^ r k
theorem setN_b {r : Nat → Nat} {k : Nat} (h : ∀ i, i < k → r i < 7) : setN r k < 128 := by
  induction k with
  | zero => exact (by decide : (0 : Nat) < 128)
  | succ k ih => exact or_b (ih (fun i hi => h i (by omega))) (h k (by omega))
theorem setN_S (r : Nat → Nat) (k : Nat) : isS (setN r k) k r := by
  induction k with
  | zero =>
    intro g
    show Nat.testBit 0 g = true ↔ _
    rw [Nat.zero_testBit]
    exact ⟨fun c => (by cases c), fun ⟨i, hi, _⟩ => absurd hi (by omega)⟩
  | succ k ih =>
    intro g
    show (setN r k ||| 2 ^ r k).testBit g = true ↔ _
    rw [or_bit, Bool.or_eq_true, ih g, decide_eq_true_iff]
    constructor
    · rintro (⟨i, hi, e⟩ | e)
      · exact ⟨i, by omega, e⟩
      · exact ⟨k, by omega, e⟩
    · rintro ⟨i, hi, e⟩
      by_cases q : i = k
      · exact Or.inr (by rw [← q]; exact e)
      · exact Or.inl ⟨i, by omega, e⟩
end R1
/-- the class's table: the most by a set and its first one -/
def isMx (P : Nat) (B : Nat → Nat → Nat) (st : Nat → Nat) (s f x : Nat) : Prop := (∀ k r, Row P B (k + 1) r → isS s (k + 1) r → r 0 = f → sW B st r (k + 1) ≤ x) ∧ (x = 0 ∨ ∃ k r, Row P B (k + 1) r ∧ isS s (k + 1) r ∧ r 0 = f ∧ sW B st r (k + 1) = x)
/-- the model's table: the most places by a set and its last one, one more than that; 0 for none -/
def isMl (P : Nat) (B : Nat → Nat → Nat) (s f y : Nat) : Prop := (∀ k r, Row P B (k + 1) r → isS s (k + 1) r → r k = f → sV B r (k + 1) < y) ∧ (y = 0 ∨ ∃ k r, Row P B (k + 1) r ∧ isS s (k + 1) r ∧ r k = f ∧ sV B r (k + 1) + 1 = y)
