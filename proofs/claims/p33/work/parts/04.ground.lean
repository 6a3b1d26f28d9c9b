/-! THE GROUND OF THE SOUNDNESS: what the tables say, values and cells, calls -/
def cv (ba b : Nat) : Value → Value
  | .ref r => .ref (ba + r)
  | .float _ => .ref b
  | v => v
theorem cv_cat (ba b : Nat) (v : Value) : (cv ba b v).category = v.category := by cases v <;> rfl
def sx_T (U : State) : Prop := (∀ w ∈ lw_tbl, goodWord w = true → ∀ A, w.before A U = true) ∧ (∀ a i x h, Cond.methodLinkNest a i x h ∈ lw_tbl → va_Nw (.methodLinkNest a i x h) U) ∧ va_AO RX0 U ∧ va_AO RX2 U
theorem sx_T.moved {s U : State} (hW : s.WarmedH U.vm) (h : sx_T s) : sx_T U := by
  obtain ⟨h1, h2, h3, h4⟩ := h
  refine ⟨fun w hw hg A => word_at hW (good_of_word hg) (h1 w hw hg A), fun a i x q hq => (h2 a i x q hq).warmM hW, h3.moved hW.alike, h4.moved hW.alike⟩
def sx_Pre (D : va_G) (cK : Nat → ClassId) (ba b : Nat) (As : List Value) (G : hp_G) : Array Value → State → Prop := fun v U => v = (As.map (cv ba b)).toArray ∧ U.heap.size = ba + G.2.2.2 ∧ va_P D hp_cl (hp_w cK ba G) U.heap ∧ va_K D hp_cl (hp_tys cK) U ∧ sx_T U
def sx_Q (D : va_G) (cK : Nat → ClassId) (ba b : Nat) (v : Option Value) (G' : hp_G) : Array Value → State → Outcome → State → Prop := fun _ st o t => o = .returned (v.map (cv ba b)) ∧ t.heap.size = ba + G'.2.2.2 ∧ va_P D hp_cl (hp_w cK ba G') t.heap ∧ ∀ q : Nat, q < ba → t.heap[q]? = st.heap[q]?
theorem sx_blind (D : va_G) (cK : Nat → ClassId) (ba b : Nat) (As : List Value) (G : hp_G) : FrameBlind (sx_Pre D cK ba b As G) := by
  intro a U g mk ⟨h1, h2, h3, h4, h5⟩
  exact ⟨h1, h2, h3, va_K.moved (u := U) (U := U.calling g mk a) (Vm.Alike.refl U.vm) h4, sx_T.moved (s := U) (U := U.calling g mk a) (State.WarmedH.refl U) h5⟩
/-- a method keeps its picture -/
def sx_ok (d : sx_M) (f : sx_F) : Prop := Cond.code d.1 d.2.1 d.2.2.1 d.2.2.2.1 ∈ lw_tbl ∧ ∀ (As : List Value) (G : hp_G) (v : Option Value) (G' : hp_G), f As G = some (v, G') → G.2.2.2 ≤ G'.2.2.2 ∧ ∀ (l : Launch) (D : va_G) (cK : Nat → ClassId) (ba b : Nat),
  Met l d.1 [Cond.code d.1 d.2.1 d.2.2.1 d.2.2.2.1] ({ frames := d.2.2.2.2.1, cells := G'.2.2.2 - G.2.2.2, slots := hp_tot G'.2.2.2 - hp_tot G.2.2.2, locals := d.2.2.2.2.2.1 } : Room) (sx_Pre D cK ba b As G) (sx_Q D cK ba b v G') (G'.2.2.2 - G.2.2.2) (hp_tot G'.2.2.2 - hp_tot G.2.2.2) (fun q => ba ≤ q)
def sx_H (D : va_G) (cK : Nat → ClassId) (ba : Nat) (H0 : Heap) (n0 : Nat) (G : hp_G) (H : Heap) (locs : List Loc) (cells slots : Nat) : Prop :=
  va_P D hp_cl (hp_w cK ba G) H ∧ va_S (fun q => ba ≤ q) H0 H locs ∧ cells + n0 = G.2.2.2 ∧ slots + hp_tot n0 = hp_tot G.2.2.2
theorem sx_H.same {D : va_G} {cK : Nat → ClassId} {ba n0 : Nat} {H0 : Heap} {G G' : hp_G} {H H' : Heap} {locs locs' : List Loc} {cells slots : Nat} (h : sx_H D cK ba H0 n0 G H locs cells slots) (hN : G'.2.2.2 = G.2.2.2) (hP : va_P D hp_cl (hp_w cK ba G') H') (hS : va_S (fun q => ba ≤ q) H0 H' locs') : sx_H D cK ba H0 n0 G' H' locs' cells slots :=
  ⟨hP, hS, by rw [hN]; exact h.2.2.1, by rw [hN]; exact h.2.2.2⟩
/-- the heap's size, out of what the machine counts -/
theorem sx_size {p : Program} {l : Launch} {e : Env} {R : Room} {s : State} {m : MethodId} {args : Array Value} {below : List Frame} {meth : Method} {c : Code} {Q : State → Prop} {D : va_G} {cK : Nat → ClassId} {ba n0 : Nat} {G : hp_G} {H : Heap} {locs : List Loc} {cells slots : Nat} {g : JFrame} (hs0 : s.heap.size = ba + n0) (hH : sx_H D cK ba s.heap n0 G H locs cells slots)
    (k : H.size = ba + G.2.2.2 → W p l e R s m args below meth c H locs cells slots Q g) : W p l e R s m args below meth c H locs cells slots Q g := by
  intro T hT X
  have h1 := X.heapSize
  rw [hT, hs0] at h1
  obtain ⟨hP, hS, hc, -⟩ := hH
  refine k ?_ T hT X
  have h2 := hS.1
  rw [hs0] at h2
  rcases Nat.eq_zero_or_pos G.2.2.2 with h0 | h0
  · omega
  · have h3 := (hP (G.2.2.2 - 1) _ (hp_wAt cK ba (by omega))).lt
    dsimp only at h3
    omega
theorem sx_cat (st : List Value) : (st.map fun v => v.category).sum ≤ 2 * st.length := by
  induction st with
  | nil => simp
  | cons v r ih =>
    have : v.category ≤ 2 := by rcases lv_cat v with h | h <;> omega
    simp only [List.map_cons, List.sum_cons, List.length_cons]
    omega
theorem sx_cat8 {r : List Value} (h : Nat.ble r.length 4 = true) (ba b : Nat) : ((r.map (cv ba b)).map fun v => v.category).sum ≤ 8 := by
  have h1 := sx_cat (r.map (cv ba b))
  have h2 : r.length ≤ 4 := Nat.le_of_ble_eq_true h
  rw [List.length_map] at h1
  omega
def sx_m (ba b : Nat) (ls : List (Nat × Value)) : List (Nat × Value) := ls.map (fun q => (q.1, cv ba b q.2))
theorem sx_mAt {ba b : Nat} {ls : List (Nat × Value)} {i : Nat} {v : Value} (h : lk ls i = some v) : ∃ k : Nat, (sx_m ba b ls)[k]? = some (i, cv ba b v) := by
  induction ls with
  | nil => cases h
  | cons q r ih =>
    obtain ⟨j, w⟩ := q
    simp only [lk] at h
    cases hb : Nat.beq j i with
    | true =>
      rw [hb] at h
      have h : some w = some v := h
      cases h
      have := Nat.eq_of_beq_eq_true hb
      subst this
      exact ⟨0, rfl⟩
    | false =>
      rw [hb] at h
      obtain ⟨k, hk⟩ := ih h
      exact ⟨k + 1, hk⟩
theorem sx_has {ba b : Nat} {ls : List (Nat × Value)} {i nL : Nat} {v : Value} {lsA : Array Slot} (hl : lv_has lsA nL (sx_m ba b ls)) (h : lk ls i = some v) : lsA[i]? = some (.val (cv ba b v)) := by
  obtain ⟨k, hk⟩ := sx_mAt (ba := ba) (b := b) h
  exact lv_at hl k hk
theorem beq_ne {j i : Nat} (h : Nat.beq j i = false) : j ≠ i := fun e => by
  subst e
  rw [Nat.beq_refl] at h
  cases h
theorem dl_mem {ls : List (Nat × Value)} {i : Nat} {q : Nat × Value} (h : q ∈ dl i ls) : q ∈ ls ∧ q.1 ≠ i := by
  induction ls with
  | nil => cases h
  | cons p r ih =>
    obtain ⟨j, w⟩ := p
    simp only [dl] at h
    cases hb : Nat.beq j i with
    | true =>
      rw [hb] at h
      exact ⟨List.mem_cons_of_mem _ (ih h).1, (ih h).2⟩
    | false =>
      rw [hb] at h
      have h : q ∈ (j, w) :: dl i r := h
      rcases List.mem_cons.mp h with h | h
      · rw [h]; exact ⟨List.mem_cons_self, beq_ne hb⟩
      · exact ⟨List.mem_cons_of_mem _ (ih h).1, (ih h).2⟩
theorem sl_mem {ls : List (Nat × Value)} {i : Nat} {v : Value} {q : Nat × Value} (h : q ∈ sl ls i v) : q = (i, v) ∨ (q ∈ ls ∧ q.1 ≠ i) := by
  induction ls with
  | nil =>
    simp only [sl, List.mem_singleton] at h
    exact Or.inl h
  | cons p r ih =>
    obtain ⟨j, w⟩ := p
    simp only [sl] at h
    cases hb : Nat.beq j i with
    | true =>
      rw [hb] at h
      have h : q ∈ (i, v) :: dl i r := h
      rcases List.mem_cons.mp h with h | h
      · exact Or.inl h
      · exact Or.inr ⟨List.mem_cons_of_mem _ (dl_mem h).1, (dl_mem h).2⟩
    | false =>
      rw [hb] at h
      have h : q ∈ (j, w) :: sl r i v := h
      rcases List.mem_cons.mp h with h | h
      · exact Or.inr (by rw [h]; exact ⟨List.mem_cons_self, beq_ne hb⟩)
      · rcases ih h with h | h
        · exact Or.inl h
        · exact Or.inr ⟨List.mem_cons_of_mem _ h.1, h.2⟩
theorem kp_mem {n : Nat} {ls : List (Nat × Value)} {q : Nat × Value} (h : q ∈ kp n ls) : q ∈ ls := by
  induction ls with
  | nil => cases h
  | cons p r ih =>
    obtain ⟨j, w⟩ := p
    simp only [kp] at h
    cases hb : Nat.blt j n with
    | true =>
      rw [hb] at h
      have h : q ∈ (j, w) :: kp n r := h
      rcases List.mem_cons.mp h with h | h
      · rw [h]; exact List.mem_cons_self
      · exact List.mem_cons_of_mem _ (ih h)
    | false =>
      rw [hb] at h
      exact List.mem_cons_of_mem _ (ih h)
theorem kp_has {ba b n nL : Nat} {ls : List (Nat × Value)} {lsA : Array Slot} (hl : lv_has lsA nL (sx_m ba b ls)) : lv_has lsA nL (sx_m ba b (kp n ls)) := by
  refine ⟨hl.1, hl.2.1, fun q hq => ?_⟩
  obtain ⟨x, hx, rfl⟩ := List.mem_map.mp hq
  exact hl.2.2 _ (List.mem_map.mpr ⟨x, kp_mem hx, rfl⟩)
/-- the locals: what is listed is there; nothing of two words -/
def sx_L (ba b nL : Nat) (ls : List (Nat × Value)) (lsA : Array Slot) : Prop := lv_has lsA nL (sx_m ba b ls) ∧ ∀ q ∈ ls, q.2.category = 1
theorem sx_L.kp {ba b nL n : Nat} {ls : List (Nat × Value)} {lsA : Array Slot} (h : sx_L ba b nL ls lsA) : sx_L ba b nL (kp n ls) lsA := ⟨kp_has h.1, fun q hq => h.2 q (kp_mem hq)⟩
theorem sx_L.sl {ba b nL i : Nat} {ls : List (Nat × Value)} {lsA : Array Slot} {v : Value} (h : sx_L ba b nL ls lsA) (hv : v.category = 1) {ls' : Array Slot} (h' : lv_has ls' nL ((i, cv ba b v) :: (sx_m ba b ls).filter (fun q => !(q.1 == i) && !(q.1 + 1 == i && q.2.category == 2)))) : sx_L ba b nL (sl ls i v) ls' := by
  refine ⟨⟨h'.1, h'.2.1, fun q hq => ?_⟩, fun q hq => ?_⟩
  · obtain ⟨x, hx, rfl⟩ := List.mem_map.mp hq
    rcases sl_mem hx with rfl | ⟨h1, h2⟩
    · exact h'.2.2 _ List.mem_cons_self
    · refine h'.2.2 _ (List.mem_cons_of_mem _ (List.mem_filter.mpr ⟨List.mem_map.mpr ⟨x, h1, rfl⟩, ?_⟩))
      have := h.2 x h1
      simp [h2, cv_cat, this]
  · rcases sl_mem hq with rfl | ⟨h1, h2⟩
    · exact hv
    · exact h.2 q h1
