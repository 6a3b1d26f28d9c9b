/-! A STEP OF THE PICTURE IS A STEP OF THE MACHINE -/
section SXA
variable {p : Program} {l : Launch} {e : Env} {R : Room} {s : State} {m : MethodId} {args : Array Value} {below : List Frame} {meth : Method} {c : Code} {Q : State → Prop}
variable {D : va_G} {cK : Nat → ClassId} {ba b n0 nL : Nat} {H0 : Heap} {cc : ByteArray} {own : String}
/-- the machine, at a state of the picture, comes to Q -/
def sx_G (p : Program) (l : Launch) (e : Env) (R : Room) (s : State) (m : MethodId) (args : Array Value) (below : List Frame) (meth : Method) (c : Code) (Q : State → Prop) (D : va_G) (cK : Nat → ClassId) (ba b n0 nL : Nat) (H0 : Heap) (S : sx_S) : Prop :=
  ∀ (H : Heap) (locs : List Loc) (cells slots : Nat) (lsA : Array Slot), sx_H D cK ba H0 n0 S.2.2.2 H locs cells slots → sx_L ba b nL S.2.1 lsA → W p l e R s m args below meth c H locs cells slots Q (F0 m S.1 lsA (S.2.2.1.map (cv ba b)))
theorem g_co {v : Value} {n : Nat} {S S' : sx_S} (h : o_co v n S = some (.inr S')) (row : ∀ {H : Heap} {locs : List Loc} {cells slots : Nat} {ls : Array Slot} {rest : List Value}, W p l e R s m args below meth c H locs cells slots Q (F0 m (S.1 + n) ls (cv ba b v :: rest)) → W p l e R s m args below meth c H locs cells slots Q (F0 m S.1 ls rest))
    (k : sx_G p l e R s m args below meth c Q D cK ba b n0 nL H0 S') : sx_G p l e R s m args below meth c Q D cK ba b n0 nL H0 S := by
  cases h
  intro H locs cells slots lsA hH hL
  exact row (k H locs cells slots lsA hH hL)
theorem g_bi {f : Int32 → Int32 → Int32} {S S' : sx_S} (h : o_bi f S = some (.inr S')) (row : ∀ {H : Heap} {locs : List Loc} {cells slots : Nat} {ls : Array Slot} {rest : List Value} {x y : Int32}, W p l e R s m args below meth c H locs cells slots Q (F0 m (S.1 + 1) ls (.int (f x y) :: rest)) → W p l e R s m args below meth c H locs cells slots Q (F0 m S.1 ls (.int y :: .int x :: rest)))
    (k : sx_G p l e R s m args below meth c Q D cK ba b n0 nL H0 S') : sx_G p l e R s m args below meth c Q D cK ba b n0 nL H0 S := by
  obtain ⟨pc, ls, st, G⟩ := S
  simp only [o_bi] at h
  split at h
  · rename_i y x r
    cases h
    intro H locs cells slots lsA hH hL
    exact row (k H locs cells slots lsA hH hL)
  · cases h
theorem g_dv {f : Int32 → Int32 → Int32} {S S' : sx_S} (h : o_dv f S = some (.inr S')) (row : ∀ {H : Heap} {locs : List Loc} {cells slots : Nat} {ls : Array Slot} {rest : List Value} {x y : Int32}, ¬ y = 0 → W p l e R s m args below meth c H locs cells slots Q (F0 m (S.1 + 1) ls (.int (f x y) :: rest)) → W p l e R s m args below meth c H locs cells slots Q (F0 m S.1 ls (.int y :: .int x :: rest)))
    (k : sx_G p l e R s m args below meth c Q D cK ba b n0 nL H0 S') : sx_G p l e R s m args below meth c Q D cK ba b n0 nL H0 S := by
  obtain ⟨pc, ls, st, G⟩ := S
  simp only [o_dv] at h
  split at h
  · rename_i y x r
    split at h
    · cases h
    · rename_i hy
      cases h
      intro H locs cells slots lsA hH hL
      exact row hy (k H locs cells slots lsA hH hL)
  · cases h
theorem g_ladd (hx : p.tables.exec = Jvm.exec) (hb : c.code = cc) {S S' : sx_S} (h : o_ladd S = some (.inr S')) (hd : decode cc S.1 = .ok (.ladd, 1))
    (k : sx_G p l e R s m args below meth c Q D cK ba b n0 nL H0 S') : sx_G p l e R s m args below meth c Q D cK ba b n0 nL H0 S := by
  obtain ⟨pc, ls, st, G⟩ := S
  simp only [o_ladd] at h
  split at h
  · rename_i y x r
    cases h
    intro H locs cells slots lsA hH hL
    exact lv_ladd hx hb hd (k H locs cells slots lsA hH hL)
  · cases h
theorem g_lcmp (hx : p.tables.exec = Jvm.exec) (hb : c.code = cc) {S S' : sx_S} (h : o_lcmp S = some (.inr S')) (hd : decode cc S.1 = .ok (.lcmp, 1))
    (k : sx_G p l e R s m args below meth c Q D cK ba b n0 nL H0 S') : sx_G p l e R s m args below meth c Q D cK ba b n0 nL H0 S := by
  obtain ⟨pc, ls, st, G⟩ := S
  simp only [o_lcmp] at h
  split at h
  · rename_i y x r
    cases h
    intro H locs cells slots lsA hH hL
    exact W.lcmp hx hb hd (k H locs cells slots lsA hH hL)
  · cases h
theorem g_ldi {i n : Nat} {S S' : sx_S} (h : o_ldi i n S = some (.inr S')) (row : ∀ {H : Heap} {locs : List Loc} {cells slots : Nat} {ls : Array Slot} {rest : List Value} {x : Int32}, ls[i]? = some (.val (.int x)) → W p l e R s m args below meth c H locs cells slots Q (F0 m (S.1 + n) ls (.int x :: rest)) → W p l e R s m args below meth c H locs cells slots Q (F0 m S.1 ls rest))
    (k : sx_G p l e R s m args below meth c Q D cK ba b n0 nL H0 S') : sx_G p l e R s m args below meth c Q D cK ba b n0 nL H0 S := by
  obtain ⟨pc, ls, st, G⟩ := S
  simp only [o_ldi] at h
  split at h
  · rename_i x hl
    cases h
    intro H locs cells slots lsA hH hL
    exact row (sx_has hL.1 hl) (k H locs cells slots lsA hH hL)
  · cases h
theorem g_lda {i n : Nat} {S S' : sx_S} (h : o_lda i n S = some (.inr S')) (row : ∀ {H : Heap} {locs : List Loc} {cells slots : Nat} {ls : Array Slot} {rest : List Value} {x : Nat}, ls[i]? = some (.val (.ref x)) → W p l e R s m args below meth c H locs cells slots Q (F0 m (S.1 + n) ls (.ref x :: rest)) → W p l e R s m args below meth c H locs cells slots Q (F0 m S.1 ls rest))
    (k : sx_G p l e R s m args below meth c Q D cK ba b n0 nL H0 S') : sx_G p l e R s m args below meth c Q D cK ba b n0 nL H0 S := by
  obtain ⟨pc, ls, st, G⟩ := S
  simp only [o_lda] at h
  split at h
  · rename_i x hl
    cases h
    intro H locs cells slots lsA hH hL
    exact row (sx_has hL.1 hl) (k H locs cells slots lsA hH hL)
  · rename_i x hl
    cases h
    intro H locs cells slots lsA hH hL
    exact row (sx_has hL.1 hl) (k H locs cells slots lsA hH hL)
  · cases h
theorem g_sti {i n : Nat} {S S' : sx_S} (h : o_sti i n S = some (.inr S')) (row : ∀ {H : Heap} {locs : List Loc} {cells slots : Nat} {ls : Array Slot} {rest : List Value} {x : Int32} {lv : List (Nat × Value)}, lv_has ls nL lv → (∀ ls' : Array Slot, lv_has ls' nL ((i, Value.int x) :: lv.filter (fun q => !(q.1 == i) && !(q.1 + 1 == i && q.2.category == 2))) → W p l e R s m args below meth c H locs cells slots Q (F0 m (S.1 + n) ls' rest)) → W p l e R s m args below meth c H locs cells slots Q (F0 m S.1 ls (.int x :: rest)))
    (k : sx_G p l e R s m args below meth c Q D cK ba b n0 nL H0 S') : sx_G p l e R s m args below meth c Q D cK ba b n0 nL H0 S := by
  obtain ⟨pc, ls, st, G⟩ := S
  simp only [o_sti] at h
  split at h
  · rename_i x r
    cases h
    intro H locs cells slots lsA hH hL
    exact row hL.1 (fun ls' h' => k H locs cells slots ls' hH (hL.sl (v := .int x) rfl h'))
  · cases h
theorem g_sta {i n : Nat} {S S' : sx_S} (h : o_sta i n S = some (.inr S')) (row : ∀ {H : Heap} {locs : List Loc} {cells slots : Nat} {ls : Array Slot} {rest : List Value} {x : Nat} {lv : List (Nat × Value)}, lv_has ls nL lv → (∀ ls' : Array Slot, lv_has ls' nL ((i, Value.ref x) :: lv.filter (fun q => !(q.1 == i) && !(q.1 + 1 == i && q.2.category == 2))) → W p l e R s m args below meth c H locs cells slots Q (F0 m (S.1 + n) ls' rest)) → W p l e R s m args below meth c H locs cells slots Q (F0 m S.1 ls (.ref x :: rest)))
    (k : sx_G p l e R s m args below meth c Q D cK ba b n0 nL H0 S') : sx_G p l e R s m args below meth c Q D cK ba b n0 nL H0 S := by
  obtain ⟨pc, ls, st, G⟩ := S
  simp only [o_sta] at h
  split at h
  · rename_i x r
    cases h
    intro H locs cells slots lsA hH hL
    exact row hL.1 (fun ls' h' => k H locs cells slots ls' hH (hL.sl (v := .ref x) rfl h'))
  · cases h
theorem g_ci {lv : List (Int32 × Nat)} {n : Nat} {S S' : sx_S} (h : o_ci lv n S = some (.inr S')) (row : ∀ (v : Int32) (z : Nat) (r : List (Int32 × Nat)) (H : Heap) (locs : List Loc) (cells slots : Nat) (ls : Array Slot) (rest : List Value), lv = (v, z) :: r → W p l e R s m args below meth c H locs cells slots Q (F0 m (S.1 + n) ls (.int v :: rest)) → W p l e R s m args below meth c H locs cells slots Q (F0 m S.1 ls rest))
    (k : sx_G p l e R s m args below meth c Q D cK ba b n0 nL H0 S') : sx_G p l e R s m args below meth c Q D cK ba b n0 nL H0 S := by
  cases lv with
  | nil => cases h
  | cons q r => exact g_co (v := .int q.1) h (fun w => row q.1 q.2 r _ _ _ _ _ _ rfl w) k
theorem g_inc (hx : p.tables.exec = Jvm.exec) (hb : c.code = cc) {i : Nat} {z : Int} {lv : List (Int32 × Nat)} {S S' : sx_S} (h : o_inc i lv S = some (.inr S')) (hv : ∀ v w r, lv = (v, w) :: r → Int32.ofInt z = v) (hi : i < nL) (hd : decode cc S.1 = .ok (.iinc i z, 3))
    (k : sx_G p l e R s m args below meth c Q D cK ba b n0 nL H0 S') : sx_G p l e R s m args below meth c Q D cK ba b n0 nL H0 S := by
  cases lv with
  | nil => cases h
  | cons q r =>
    obtain ⟨q1, q2⟩ := q
    obtain ⟨pc, ls, st, G⟩ := S
    have hq := hv q1 q2 r rfl
    simp only [o_inc, o_inc1] at h
    split at h
    · rename_i x hl
      cases h
      intro H locs cells slots lsA hH hL
      obtain ⟨j, hj⟩ := sx_mAt (ba := ba) (b := b) hl
      exact lv_iinc hx hb hd hL.1 hj (by rw [hq]) hi rfl (fun ls' h' => k H locs cells slots ls' hH (hL.sl (v := .int (x + q1)) rfl h'))
    · cases h
theorem g_dup (hx : p.tables.exec = Jvm.exec) (hb : c.code = cc) {S S' : sx_S} (h : o_dup S = some (.inr S')) (hd : decode cc S.1 = .ok (.dup, 1))
    (k : sx_G p l e R s m args below meth c Q D cK ba b n0 nL H0 S') : sx_G p l e R s m args below meth c Q D cK ba b n0 nL H0 S := by
  obtain ⟨pc, ls, st, G⟩ := S
  simp only [o_dup] at h
  split at h
  · rename_i x r
    cases h
    intro H locs cells slots lsA hH hL
    exact lv_dup hx hb hd rfl (k H locs cells slots lsA hH hL)
  · rename_i x r
    cases h
    intro H locs cells slots lsA hH hL
    exact lv_dup hx hb hd rfl (k H locs cells slots lsA hH hL)
  · cases h
theorem g_dup2 (hx : p.tables.exec = Jvm.exec) (hb : c.code = cc) {S S' : sx_S} (h : o_dup2 S = some (.inr S')) (hd : decode cc S.1 = .ok (.dup2, 1))
    (k : sx_G p l e R s m args below meth c Q D cK ba b n0 nL H0 S') : sx_G p l e R s m args below meth c Q D cK ba b n0 nL H0 S := by
  obtain ⟨pc, ls, st, G⟩ := S
  simp only [o_dup2] at h
  split at h
  · rename_i x y r
    cases h
    intro H locs cells slots lsA hH hL
    exact lv_dup2_11 hx hb hd rfl rfl (k H locs cells slots lsA hH hL)
  · cases h
theorem g_pop (hx : p.tables.exec = Jvm.exec) (hb : c.code = cc) {S S' : sx_S} (h : o_pop S = some (.inr S')) (hd : decode cc S.1 = .ok (.pop, 1))
    (k : sx_G p l e R s m args below meth c Q D cK ba b n0 nL H0 S') : sx_G p l e R s m args below meth c Q D cK ba b n0 nL H0 S := by
  obtain ⟨pc, ls, st, G⟩ := S
  simp only [o_pop] at h
  split at h
  · rename_i x r
    cases h
    intro H locs cells slots lsA hH hL
    exact lv_pop hx hb hd rfl (k H locs cells slots lsA hH hL)
  · cases h
theorem g_pop2 (hx : p.tables.exec = Jvm.exec) (hb : c.code = cc) {S S' : sx_S} (h : o_pop2 S = some (.inr S')) (hd : decode cc S.1 = .ok (.pop2, 1))
    (k : sx_G p l e R s m args below meth c Q D cK ba b n0 nL H0 S') : sx_G p l e R s m args below meth c Q D cK ba b n0 nL H0 S := by
  obtain ⟨pc, ls, st, G⟩ := S
  simp only [o_pop2] at h
  split at h
  · rename_i x r
    cases h
    intro H locs cells slots lsA hH hL
    exact lv_pop2_2 hx hb hd rfl (k H locs cells slots lsA hH hL)
  · cases h
theorem g_goto (hx : p.tables.exec = Jvm.exec) (hb : c.code = cc) {n t : Nat} {off : Int} {S S' : sx_S} (h : o_goto n t S = some (.inr S')) (hd : decode cc S.1 = .ok (.goto off, 3)) (ht : (S.1 : Int) + off = (t : Int))
    (k : sx_G p l e R s m args below meth c Q D cK ba b n0 nL H0 S') : sx_G p l e R s m args below meth c Q D cK ba b n0 nL H0 S := by
  obtain ⟨pc, ls, st, G⟩ := S
  cases h
  intro H locs cells slots lsA hH hL
  exact lv_goto hx hb hd ht (k H locs cells slots lsA hH hL.kp)
theorem g_if (hx : p.tables.exec = Jvm.exec) (hb : c.code = cc) {cd : Jvm.ClassFile.Cond} {t : Nat} {off : Int} {S S' : sx_S} (h : o_if cd t S = some (.inr S')) (hd : decode cc S.1 = .ok (.ifCond cd off, 3)) (ht : (S.1 : Int) + off = (t : Int))
    (k : sx_G p l e R s m args below meth c Q D cK ba b n0 nL H0 S') : sx_G p l e R s m args below meth c Q D cK ba b n0 nL H0 S := by
  obtain ⟨pc, ls, st, G⟩ := S
  simp only [o_if] at h
  split at h
  · rename_i x r
    intro H locs cells slots lsA hH hL
    cases cd <;> dsimp only at h <;> split at h <;> rename_i hc <;> cases h
    · exact lv_if_eq hx hb hd ht (fun _ => k H locs cells slots lsA hH hL) (fun z => absurd hc z)
    · exact lv_if_eq hx hb hd ht (fun z => absurd z hc) (fun _ => k H locs cells slots lsA hH hL)
    · exact lv_if_ne hx hb hd ht (fun z => absurd hc z) (fun _ => k H locs cells slots lsA hH hL)
    · exact lv_if_ne hx hb hd ht (fun _ => k H locs cells slots lsA hH hL) (fun z => absurd z hc)
    · exact lv_if_lt hx hb hd ht (fun _ => k H locs cells slots lsA hH hL) (fun z => absurd hc z)
    · exact lv_if_lt hx hb hd ht (fun z => absurd z hc) (fun _ => k H locs cells slots lsA hH hL)
    · exact lv_if_ge hx hb hd ht (fun _ => k H locs cells slots lsA hH hL) (fun z => absurd hc z)
    · exact lv_if_ge hx hb hd ht (fun z => absurd z hc) (fun _ => k H locs cells slots lsA hH hL)
    · exact lv_if_gt hx hb hd ht (fun _ => k H locs cells slots lsA hH hL) (fun z => absurd hc z)
    · exact lv_if_gt hx hb hd ht (fun z => absurd z hc) (fun _ => k H locs cells slots lsA hH hL)
    · exact lv_if_le hx hb hd ht (fun _ => k H locs cells slots lsA hH hL) (fun z => absurd hc z)
    · exact lv_if_le hx hb hd ht (fun z => absurd z hc) (fun _ => k H locs cells slots lsA hH hL)
  · cases h
theorem g_icmp (hx : p.tables.exec = Jvm.exec) (hb : c.code = cc) {cd : Jvm.ClassFile.Cond} {t : Nat} {off : Int} {S S' : sx_S} (h : o_icmp cd t S = some (.inr S')) (hd : decode cc S.1 = .ok (.if_icmp cd off, 3)) (ht : (S.1 : Int) + off = (t : Int))
    (k : sx_G p l e R s m args below meth c Q D cK ba b n0 nL H0 S') : sx_G p l e R s m args below meth c Q D cK ba b n0 nL H0 S := by
  obtain ⟨pc, ls, st, G⟩ := S
  simp only [o_icmp] at h
  split at h
  · rename_i y x r
    intro H locs cells slots lsA hH hL
    cases cd <;> dsimp only at h <;> split at h <;> rename_i hc <;> cases h
    · exact lv_icmp_eq hx hb hd ht (fun _ => k H locs cells slots lsA hH hL) (fun z => absurd hc z)
    · exact lv_icmp_eq hx hb hd ht (fun z => absurd z hc) (fun _ => k H locs cells slots lsA hH hL)
    · exact lv_icmp_ne hx hb hd ht (fun z => absurd hc z) (fun _ => k H locs cells slots lsA hH hL)
    · exact lv_icmp_ne hx hb hd ht (fun _ => k H locs cells slots lsA hH hL) (fun z => absurd z hc)
    · exact lv_icmp_lt hx hb hd ht (fun _ => k H locs cells slots lsA hH hL) (fun z => absurd hc z)
    · exact lv_icmp_lt hx hb hd ht (fun z => absurd z hc) (fun _ => k H locs cells slots lsA hH hL)
    · exact lv_icmp_ge hx hb hd ht (fun _ => k H locs cells slots lsA hH hL) (fun z => absurd hc z)
    · exact lv_icmp_ge hx hb hd ht (fun z => absurd z hc) (fun _ => k H locs cells slots lsA hH hL)
    · exact lv_icmp_gt hx hb hd ht (fun _ => k H locs cells slots lsA hH hL) (fun z => absurd hc z)
    · exact lv_icmp_gt hx hb hd ht (fun z => absurd z hc) (fun _ => k H locs cells slots lsA hH hL)
    · exact lv_icmp_le hx hb hd ht (fun _ => k H locs cells slots lsA hH hL) (fun z => absurd hc z)
    · exact lv_icmp_le hx hb hd ht (fun z => absurd z hc) (fun _ => k H locs cells slots lsA hH hL)
  · cases h
end SXA
