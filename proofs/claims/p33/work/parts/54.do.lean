/-! picks, slits, threads, pulls, minutes, water -/
theorem ds_k (d : Nat → Nat) (k v : Nat) : dset d k v k = v := by unfold dset; rw [if_pos rfl]
theorem ds_o (d : Nat → Nat) {k k' : Nat} (v : Nat) (h : k' ≠ k) : dset d k v k' = d k' := by unfold dset; rw [if_neg h]
theorem pigeon : ∀ (F n : Nat) (g : Nat → Nat), (∀ i, i < n → g i < F) → (∀ i j, i < n → j < n → g i = g j → i = j) → n ≤ F := by
  intro F
  induction F with
  | zero =>
    intro n g h _
    rcases Nat.eq_zero_or_pos n with q | q
    · omega
    · have := h 0 q; omega
  | succ F ih =>
    intro n g h inj
    by_cases q : ∃ i, i < n ∧ g i = F
    · obtain ⟨i, hi, e⟩ := q
      have := ih (n - 1) (fun k => if k = i then g (n - 1) else g k) (fun k hk => ?_) (fun a b ha hb c => ?_)
      · omega
      · show (if k = i then g (n - 1) else g k) < F
        by_cases c : k = i
        · rw [if_pos c]
          have h1 := h (n - 1) (by omega)
          have h2 : g (n - 1) ≠ F := fun c2 => by have := inj (n - 1) i (by omega) hi (by omega); omega
          omega
        · rw [if_neg c]
          have h1 := h k (by omega)
          have h2 : g k ≠ F := fun c2 => c (inj k i (by omega) hi (by omega))
          omega
      · have c' : (if a = i then g (n - 1) else g a) = (if b = i then g (n - 1) else g b) := c
        by_cases c1 : a = i <;> by_cases c2 : b = i
        · omega
        · rw [if_pos c1, if_neg c2] at c'
          have := inj _ _ (by omega) (by omega) c'; omega
        · rw [if_neg c1, if_pos c2] at c'
          have := inj _ _ (by omega) (by omega) c'; omega
        · rw [if_neg c1, if_neg c2] at c'
          exact inj _ _ (by omega) (by omega) c'
    · have := ih n g (fun k hk => by have h1 := h k hk; have h2 : g k ≠ F := fun c => q ⟨k, hk, c⟩; omega) inj
      omega
section W2
variable {m : hM} {d : Nat → Nat}
theorem Cm_num (k : Cm m 11 d) {j v : Nat} (hj : j < 3) : Cm (hw m 11 j (nI v)) 11 (dset d j v) := by
  obtain ⟨⟨a0, a1, a2, a7⟩, k2, k3⟩ := k
  have num : ∀ i, i < 3 → m 11 i = nI (d i) → hw m 11 j (nI v) 11 i = nI (dset d j v i) := by
    intro i hi e
    by_cases q : i = j
    · rw [q, hw_c, ds_k]
    · rw [hw_k _ _ _ q, ds_o _ _ q]; exact e
  refine ⟨⟨num 0 (by omega) a0, num 1 (by omega) a1, num 2 (by omega) a2, ?_⟩, fun f hf => ?_, fun i hi => ?_⟩
  · rw [hw_k _ _ _ (by omega), ds_o _ _ (by omega)]; exact a7
  · rw [hw_oo _ _ _ (by omega), hw_oo _ _ _ (by omega), hw_oo _ _ _ (by omega), ds_o _ _ (by omega), ds_o _ _ (by omega), ds_o _ _ (by omega)]; exact k2 f hf
  · rw [ds_o _ _ (by omega)] at hi
    rw [hw_oo _ _ _ (by omega), ds_o _ _ (by omega)]; exact k3 i hi
theorem Cm_row (k : Cm m 11 d) {r f v : Nat} (hr : r < 3) (hf : f < 7) : Cm (hw m (12 + r) f (nI v)) 11 (dset d (3 + 7 * r + f) v) := by
  obtain ⟨⟨a0, a1, a2, a7⟩, k2, k3⟩ := k
  have row : ∀ s g, s < 3 → g < 7 → m (12 + s) g = nI (d (3 + 7 * s + g)) → hw m (12 + r) f (nI v) (12 + s) g = nI (dset d (3 + 7 * r + f) v (3 + 7 * s + g)) := by
    intro s g hs hg e
    by_cases q : s = r ∧ g = f
    · rw [q.1, q.2, hw_c, ds_k]
    · rw [ds_o _ _ (by omega), ← e]
      by_cases q2 : s = r
      · rw [q2, hw_k _ _ _ (by omega)]
      · rw [hw_o _ _ _ _ (by omega)]
  refine ⟨⟨?_, ?_, ?_, ?_⟩, fun g hg => ⟨row 0 g (by omega) hg (k2 g hg).1, row 1 g (by omega) hg (k2 g hg).2.1, row 2 g (by omega) hg (k2 g hg).2.2⟩, fun i hi => ?_⟩
  · rw [hw_o _ _ _ _ (by omega), ds_o _ _ (by omega)]; exact a0
  · rw [hw_o _ _ _ _ (by omega), ds_o _ _ (by omega)]; exact a1
  · rw [hw_o _ _ _ _ (by omega), ds_o _ _ (by omega)]; exact a2
  · rw [hw_o _ _ _ _ (by omega), ds_o _ _ (by omega)]; exact a7
  · rw [ds_o _ _ (by omega)] at hi
    rw [hw_oo _ _ _ (by omega), ds_o _ _ (by omega)]; exact k3 i hi
theorem Cm_thr (k : Cm m 11 d) {f : Nat} (h7 : d 24 < 7) : Cm (hw (hw m 15 (d 24) (nI f)) 11 7 (nI (d 24 + 1))) 11 (dset (dset d (25 + d 24) f) 24 (d 24 + 1)) := by
  obtain ⟨⟨a0, a1, a2, a7⟩, k2, k3⟩ := k
  have o : ∀ j, j < 24 → dset (dset d (25 + d 24) f) 24 (d 24 + 1) j = d j := fun j hj => by rw [ds_o _ _ (by omega), ds_o _ _ (by omega)]
  refine ⟨⟨?_, ?_, ?_, ?_⟩, fun g hg => ?_, fun i hi => ?_⟩
  · rw [hw_k _ _ _ (by omega), hw_o _ _ _ _ (by omega), o 0 (by omega)]; exact a0
  · rw [hw_k _ _ _ (by omega), hw_o _ _ _ _ (by omega), o 1 (by omega)]; exact a1
  · rw [hw_k _ _ _ (by omega), hw_o _ _ _ _ (by omega), o 2 (by omega)]; exact a2
  · rw [hw_c, ds_k]
  · rw [hw_oo _ _ _ (by omega), hw_oo _ _ _ (by omega), hw_oo _ _ _ (by omega), hw_oo _ _ _ (by omega), hw_oo _ _ _ (by omega), hw_oo _ _ _ (by omega), o _ (by omega), o _ (by omega), o _ (by omega)]; exact k2 g hg
  · rw [ds_k] at hi
    show hw (hw m 15 (d 24) (nI f)) 11 7 _ 15 i = _
    rw [hw_o _ _ _ _ (by omega), ds_o _ _ (by omega)]
    by_cases q : i = d 24
    · rw [q, hw_c, ds_k]
    · rw [hw_k _ _ _ q, ds_o _ _ (by omega)]; exact k3 i (by omega)
theorem Cm_pul (k : Cm m 11 d) {n : Nat} (h : d 24 = n + 1) : Cm (hw m 11 7 (nI n)) 11 (dset (dset d 24 n) (25 + n) 0) := by
  obtain ⟨⟨a0, a1, a2, a7⟩, k2, k3⟩ := k
  have o : ∀ j, j < 24 → dset (dset d 24 n) (25 + n) 0 j = d j := fun j hj => by rw [ds_o _ _ (by omega), ds_o _ _ (by omega)]
  have o24 : dset (dset d 24 n) (25 + n) 0 24 = n := by rw [ds_o _ _ (by omega), ds_k]
  refine ⟨⟨?_, ?_, ?_, ?_⟩, fun g hg => ?_, fun i hi => ?_⟩
  · rw [hw_k _ _ _ (by omega), o 0 (by omega)]; exact a0
  · rw [hw_k _ _ _ (by omega), o 1 (by omega)]; exact a1
  · rw [hw_k _ _ _ (by omega), o 2 (by omega)]; exact a2
  · rw [hw_c, o24]
  · rw [hw_oo _ _ _ (by omega), hw_oo _ _ _ (by omega), hw_oo _ _ _ (by omega), o _ (by omega), o _ (by omega), o _ (by omega)]; exact k2 g hg
  · rw [o24] at hi
    rw [hw_oo _ _ _ (by omega), ds_o _ _ (by omega), ds_o _ _ (by omega)]; exact k3 i (by omega)
theorem Mm_set (k : Mm m 105 0 d) {j v : Nat} : Mm (hw m 105 j (nI v)) 105 0 (dset d j v) := by
  intro i hi
  by_cases q : i = j
  · rw [Nat.zero_add, q, hw_c, ds_k]
  · rw [Nat.zero_add, hw_k _ _ _ q, ds_o _ _ q]
    have := k i hi
    rwa [Nat.zero_add] at this
variable {F : Nat} {st : Nat → Nat}
theorem Okm_pick (o : Okm F st d) (hF : F ≤ 7) {f : Nat} (hf : f < F) : Okm F st (dset (dset d 2 (d 2 ||| 2 ^ f)) (3 + f) 0) := by
  obtain ⟨a0, a1, a2, a3, a4, a5, a6, a7, a8⟩ := o
  have p : d 2 ||| 2 ^ f < 2 ^ F := Nat.or_lt_two_pow a2 (Nat.pow_lt_pow_right (by omega) hf)
  have p7 := pow7 hF p
  have e : ∀ j, j ≠ 2 → j ≠ 3 + f → dset (dset d 2 (d 2 ||| 2 ^ f)) (3 + f) 0 j = d j := fun j h1 h2 => by rw [ds_o _ _ h2, ds_o _ _ h1]
  have e2 : dset (dset d 2 (d 2 ||| 2 ^ f)) (3 + f) 0 2 = d 2 ||| 2 ^ f := by rw [ds_o _ _ (by omega), ds_k]
  have e3 : dset (dset d 2 (d 2 ||| 2 ^ f)) (3 + f) 0 (3 + f) = 0 := ds_k _ _ _
  unfold Okm
  rw [e 0 (by omega) (by omega), e 1 (by omega) (by omega), e2, e 24 (by omega) (by omega)]
  refine ⟨a0, a1, p, fun g hg => ?_, fun g hg => ?_, a5, fun k hk => ?_, fun i j hi hj c => ?_, fun j hj => ?_⟩
  · by_cases q : g = f
    · rw [q, e3]; omega
    · rw [e _ (by omega) (by omega)]; exact a3 g hg
  · rw [e _ (by omega) (by omega), e _ (by omega) (by omega)]; exact a4 g hg
  · rw [e _ (by omega) (by omega)]
    exact ⟨(a6 k hk).1, by rw [or_bit, (a6 k hk).2]; rfl⟩
  · rw [e _ (by omega) (by omega), e _ (by omega) (by omega)] at c
    exact a7 i j hi hj c
  · by_cases q : j = 2
    · rw [q, e2]; omega
    · by_cases q2 : j = 3 + f
      · rw [q2, e3]; omega
      · rw [e j q q2]; exact a8 j hj
theorem Okm_slit (o : Okm F st d) {f p l : Nat} (hf : f < 7) (h1 : 1 ≤ p) (h2 : p ≤ 30) (h3 : 1 ≤ l) (h4 : l ≤ 9) : Okm F st (dset (dset d (10 + f) p) (17 + f) l) := by
  obtain ⟨a0, a1, a2, a3, a4, a5, a6, a7, a8⟩ := o
  have e : ∀ j, j ≠ 10 + f → j ≠ 17 + f → dset (dset d (10 + f) p) (17 + f) l j = d j := fun j h1 h2 => by rw [ds_o _ _ h2, ds_o _ _ h1]
  have e1 : dset (dset d (10 + f) p) (17 + f) l (10 + f) = p := by rw [ds_o _ _ (by omega), ds_k]
  have e2 : dset (dset d (10 + f) p) (17 + f) l (17 + f) = l := ds_k _ _ _
  unfold Okm
  rw [e 0 (by omega) (by omega), e 1 (by omega) (by omega), e 2 (by omega) (by omega), e 24 (by omega) (by omega)]
  refine ⟨a0, a1, a2, fun g hg => ?_, fun g hg => ?_, a5, fun k hk => ?_, fun i j hi hj c => ?_, fun j hj => ?_⟩
  · rw [e _ (by omega) (by omega)]; exact a3 g hg
  · by_cases q : g = f
    · rw [q, e1, e2]; omega
    · rw [e _ (by omega) (by omega), e _ (by omega) (by omega)]; exact a4 g hg
  · rw [e _ (by omega) (by omega)]; exact a6 k hk
  · rw [e _ (by omega) (by omega), e _ (by omega) (by omega)] at c
    exact a7 i j hi hj c
  · by_cases q : j = 10 + f
    · rw [q, e1]; omega
    · by_cases q2 : j = 17 + f
      · rw [q2, e2]; omega
      · rw [e j q q2]; exact a8 j hj
theorem Okm_thr (o : Okm F st d) (hF : F ≤ 7) {f : Nat} (hf : f < F) (hp : (d 2).testBit f = true) (hn : ∀ k, k < d 24 → ¬ d (25 + k) = f) : d 24 < F ∧ Okm F st (dset (dset d (25 + d 24) f) 24 (d 24 + 1)) := by
  obtain ⟨a0, a1, a2, a3, a4, a5, a6, a7, a8⟩ := o
  have e : ∀ j, j ≠ 24 → j ≠ 25 + d 24 → dset (dset d (25 + d 24) f) 24 (d 24 + 1) j = d j := fun j h1 h2 => by rw [ds_o _ _ h1, ds_o _ _ h2]
  have e1 : dset (dset d (25 + d 24) f) 24 (d 24 + 1) (25 + d 24) = f := by rw [ds_o _ _ (by omega), ds_k]
  have inj : ∀ i j, i < d 24 + 1 → j < d 24 + 1 → dset (dset d (25 + d 24) f) 24 (d 24 + 1) (25 + i) = dset (dset d (25 + d 24) f) 24 (d 24 + 1) (25 + j) → i = j := by
    intro i j hi hj c
    by_cases c1 : i = d 24 <;> by_cases c2 : j = d 24
    · omega
    · rw [c1, e1, e _ (by omega) (by omega)] at c
      exact absurd c.symm (hn j (by omega))
    · rw [c2, e1, e _ (by omega) (by omega)] at c
      exact absurd c (hn i (by omega))
    · rw [e _ (by omega) (by omega), e _ (by omega) (by omega)] at c
      exact a7 i j (by omega) (by omega) c
  have val : ∀ i, i < d 24 + 1 → dset (dset d (25 + d 24) f) 24 (d 24 + 1) (25 + i) < F ∧ (d 2).testBit (dset (dset d (25 + d 24) f) 24 (d 24 + 1) (25 + i)) = true := by
    intro i hi
    by_cases c1 : i = d 24
    · rw [c1, e1]; exact ⟨hf, hp⟩
    · rw [e _ (by omega) (by omega)]; exact a6 i (by omega)
  have pg := pigeon F (d 24 + 1) (fun i => dset (dset d (25 + d 24) f) 24 (d 24 + 1) (25 + i)) (fun i hi => (val i hi).1) inj
  refine ⟨by omega, ?_⟩
  unfold Okm
  rw [e 0 (by omega) (by omega), e 1 (by omega) (by omega), e 2 (by omega) (by omega), ds_k]
  refine ⟨a0, a1, a2, fun g hg => ?_, fun g hg => ?_, by omega, val, inj, fun j hj => ?_⟩
  · rw [e _ (by omega) (by omega)]; exact a3 g hg
  · rw [e _ (by omega) (by omega), e _ (by omega) (by omega)]; exact a4 g hg
  · by_cases q : j = 24
    · rw [q, ds_k]; omega
    · by_cases q2 : j = 25 + d 24
      · rw [q2, e1]; omega
      · rw [e j q q2]; exact a8 j hj
theorem Okm_pul (o : Okm F st d) {n : Nat} (h : d 24 = n + 1) : Okm F st (dset (dset d 24 n) (25 + n) 0) := by
  obtain ⟨a0, a1, a2, a3, a4, a5, a6, a7, a8⟩ := o
  have e : ∀ j, j ≠ 24 → j ≠ 25 + n → dset (dset d 24 n) (25 + n) 0 j = d j := fun j h1 h2 => by rw [ds_o _ _ h2, ds_o _ _ h1]
  have e24 : dset (dset d 24 n) (25 + n) 0 24 = n := by rw [ds_o _ _ (by omega), ds_k]
  unfold Okm
  rw [e 0 (by omega) (by omega), e 1 (by omega) (by omega), e 2 (by omega) (by omega), e24]
  refine ⟨a0, a1, a2, fun g hg => ?_, fun g hg => ?_, by omega, fun k hk => ?_, fun i j hi hj c => ?_, fun j hj => ?_⟩
  · rw [e _ (by omega) (by omega)]; exact a3 g hg
  · rw [e _ (by omega) (by omega), e _ (by omega) (by omega)]; exact a4 g hg
  · rw [e _ (by omega) (by omega)]; exact a6 k (by omega)
  · rw [e _ (by omega) (by omega), e _ (by omega) (by omega)] at c
    exact a7 i j (by omega) (by omega) c
  · by_cases q : j = 24
    · rw [q, e24]
      have := a8 24 (by omega); omega
    · by_cases q2 : j = 25 + n
      · rw [q2, ds_k]; omega
      · rw [e j q q2]; exact a8 j hj
theorem Okm_wat (o : Okm F st d) {w : Nat} (h : w ≤ 1) : Okm F st (dset d 1 w) := by
  obtain ⟨a0, a1, a2, a3, a4, a5, a6, a7, a8⟩ := o
  have e : ∀ j, j ≠ 1 → dset d 1 w j = d j := fun j h => ds_o _ _ h
  unfold Okm
  rw [e 0 (by omega), ds_k, e 2 (by omega), e 24 (by omega)]
  refine ⟨a0, h, a2, fun g hg => ?_, fun g hg => ?_, a5, fun k hk => ?_, fun i j hi hj c => ?_, fun j hj => ?_⟩
  · rw [e _ (by omega)]; exact a3 g hg
  · rw [e _ (by omega), e _ (by omega)]; exact a4 g hg
  · rw [e _ (by omega)]; exact a6 k hk
  · rw [e _ (by omega), e _ (by omega)] at c
    exact a7 i j hi hj c
  · by_cases q : j = 1
    · rw [q, ds_k]; omega
    · rw [e j q]; exact a8 j hj
/-- after t minutes, the first i flowers done -/
def minD (d : Nat → Nat) (t i : Nat) : Nat → Nat := fun j => if j = 0 then d 0 + t else if 3 ≤ j ∧ j < 3 + i ∧ d 1 = 0 ∧ (d 2).testBit (j - 3) = true then d j + t else d j
theorem minD_o (d : Nat → Nat) (t i : Nat) {j : Nat} (h0 : j ≠ 0) (h : j < 3 ∨ 3 + i ≤ j) : minD d t i j = d j := by
  unfold minD
  rw [if_neg h0, if_neg (by omega)]
theorem minD_s (d : Nat → Nat) (t i : Nat) (_hi : i < 7) : minD d t (i + 1) = dset (minD d t i) (3 + i) (if d 1 = 0 ∧ (d 2).testBit i = true then d (3 + i) + t else d (3 + i)) := by
  funext j
  by_cases q : j = 3 + i
  · rw [q, ds_k]
    unfold minD
    rw [if_neg (by omega), show 3 + i - 3 = i by omega]
    by_cases c : d 1 = 0 ∧ (d 2).testBit i = true
    · rw [if_pos ⟨by omega, by omega, c⟩, if_pos c]
    · rw [if_neg (fun x => c x.2.2), if_neg c]
  · rw [ds_o _ _ q]
    unfold minD
    by_cases z : j = 0
    · rw [if_pos z, if_pos z]
    · rw [if_neg z, if_neg z]
      by_cases c : 3 ≤ j ∧ j < 3 + i ∧ d 1 = 0 ∧ (d 2).testBit (j - 3) = true
      · rw [if_pos ⟨c.1, by omega, c.2.2⟩, if_pos c]
      · rw [if_neg (fun x => c ⟨x.1, by omega, x.2.2⟩), if_neg c]
theorem minD_0 (d : Nat → Nat) (t : Nat) : minD d t 0 = dset d 0 (d 0 + t) := by
  funext j
  unfold minD dset
  by_cases z : j = 0
  · rw [if_pos z, if_pos z]
  · rw [if_neg z, if_neg z, if_neg (by omega)]
theorem Okm_min (o : Okm F st d) (hF : F ≤ 7) {t : Nat} (h : d 0 + t ≤ 600) : Okm F st (minD d t F) := by
  obtain ⟨a0, a1, a2, a3, a4, a5, a6, a7, a8⟩ := o
  have e : ∀ j, j ≠ 0 → (j < 3 ∨ 10 ≤ j) → minD d t F j = d j := fun j h h' => minD_o d t F h (by omega)
  have e0 : minD d t F 0 = d 0 + t := by unfold minD; rw [if_pos rfl]
  have e3 : ∀ g, g < 7 → minD d t F (3 + g) ≤ d 0 + t := by
    intro g hg
    have := a3 g hg
    unfold minD
    rw [if_neg (by omega)]
    split <;> omega
  unfold Okm
  rw [e0, e 1 (by omega) (by omega), e 2 (by omega) (by omega), e 24 (by omega) (by omega)]
  refine ⟨h, a1, a2, fun g hg => ?_, fun g hg => ?_, a5, fun k hk => ?_, fun i j hi hj c => ?_, fun j hj => ?_⟩
  · have := e3 g hg; omega
  · rw [e _ (by omega) (by omega), e _ (by omega) (by omega)]; exact a4 g hg
  · rw [e _ (by omega) (by omega)]; exact a6 k hk
  · rw [e _ (by omega) (by omega), e _ (by omega) (by omega)] at c
    exact a7 i j hi hj c
  · by_cases q : j = 0
    · rw [q, e0]; exact h
    · by_cases q2 : j < 3 ∨ 10 ≤ j
      · rw [e j q q2]; exact a8 j hj
      · have := e3 (j - 3) (by omega)
        rw [show 3 + (j - 3) = j by omega] at this
        omega
end W2
