-- ===== end of PART A; then your names; then what follows =====
/-! THE CLAIM OUT OF ONE WALK OF THE LAW'S BODY. Your part is whole_start (and what it stands on); all else here is the same for every law, but numbers. -/
def R_law : String := "DaisyChainLaw"
def lw_P (b : Addr) (xs : List Int32) (args : Array Value) (s : State) : Prop := args = #[.ref b] ∧ s.IntsAt b xs ∧ xs.length ≤ 256 ∧ (Jvm.Cond.and given_1 narrow_1).before args s = true
def lw_Q (_ : Array Value) (s : State) (o : Outcome) (t : State) : Prop := o = .returned (some (.int 1)) ∧ Framed s o t [] 600000 7302250
def lw_Z (below : List Frame) (a : Array Value) (s : State) : State → Prop := fun t => ∃ o, t.status = .running ∧ Ended t below o ∧ lw_Q a s o t
/-- the law's own end, with 1 on the stack, nothing written that was there before, its room as the claim has it -/
theorem lw_ret {p : Program} {l : Launch} {e : Env} {s : State} {m : MethodId} {below : List Frame} {meth : Method} {c : Code} {b : Nat} (hx : p.tables.exec = Jvm.exec) (hb : c.code = code) (hr : meth.sig.returnType = ret) (hlocks : meth.locks = false) {pc : Nat} {H : Heap} {ls : Array Slot} (hdg : decode code pc = .ok (.ireturn, 1)) : W p l e room_1 s m #[Value.ref b] below meth c H [] 600000 7302250 (lw_Z below #[Value.ref b] s) (F0 m pc ls [.int 1]) := by
  intro T hT X
  obtain ⟨fs, hret, hrun, hended, hW, hframe⟩ := X.leave (v := some (.int 1)) (hlocks := hlocks) (fun h => by rw [hr] at h; cases h)
  have hmeth' : T.vm.method? m = some meth := X.method'
  refine ⟨T.setFrames fs, ?_, .returned (some (.int 1)), hrun, hended, rfl, ⟨_, rfl⟩, hW, hframe⟩
  jvm_step X.here [X.here.top, hx, hb, hdg, hmeth', hr, ret, narrow_b1]
  (try refine ⟨rfl, ?_⟩); (try refine ⟨rfl, ?_⟩)
  first | (intro acts; rw [hret _ acts rfl rfl rfl]) | rw [hret _ _ rfl rfl rfl]
  exact Steps.refl _
/-- what holds at the law's entry: the machine, the code, the tables' words (any of lw_tbl by 'hts w (by decide +kernel)'), the script of L ints xs at the cell b, what the Statement gives of the start (any of its parts by flat_of_before) -/
def lw_At (p : Program) (s : State) (m : MethodId) (meth : Method) (c : Code) (b L : Nat) (xs : Nat → Int32) : Prop :=
  p.tables.exec = Jvm.exec ∧ c.code = code ∧ meth.sig.returnType = ret ∧ c.maxLocals = 4 ∧ s.vm.findClass R_law = some m.cls ∧ (∀ w ∈ lw_tbl, w.before #[Value.ref b] s = true) ∧ va_X b L xs s s.heap ∧ b < s.heap.size ∧ meth.locks = false ∧ (Jvm.Cond.and given_1 narrow_1).before #[Value.ref b] s = true

def g0 : hp_G := (fun _ _ => 0, fun _ _ => 0, fun _ _ => none, 0)
theorem lw_good {p : Program} {s : State} {b : Nat} (hts : ∀ w ∈ lw_tbl, w.before #[Value.ref b] s = true) : sx_T s := by
  refine ⟨fun w hw hg A => word_at (State.WarmedH.refl s) (good_of_word hg) (hts w hw), fun a i x h hw => va_Nw.of rfl (hts _ hw), ?_, ?_⟩
  · exact va_AO.of (hts _ (wt_1 _ (List.mem_of_getElem? (i := 136) rfl)))
  · exact va_AO.of (hts _ (wt_1 _ (List.mem_of_getElem? (i := 138) rfl)))
theorem lw_arr {s : State} {A : Array Value} {ty : FieldType} (hne : ∀ C, ty ≠ .object C) (h : (Cond.arrayClass ty).before A s = true) : ∃ cA : ClassId, ArrOfT s cA ty ∧ va_RA s cA ty := by
  obtain ⟨cA, k, comp, h1, h2, h3⟩ := Cond.arrayClass_spec h
  refine ⟨cA, fun n z => ⟨fun k h => (by cases h), k, h2, comp, h3⟩, ?_⟩
  cases ty with
  | object C => exact absurd rfl (hne C)
  | _ => exact h1
theorem lw_arrO {s : State} {C : String} (h : va_AO C s) : ∃ cA : ClassId, ArrOfT s cA (.object C) ∧ va_RA s cA (.object C) := by
  obtain ⟨comp, cA, k, h1, h2, h3, h4, h5⟩ := Cond.arrayOver_spec h
  exact ⟨cA, fun n z => ⟨fun k h => (by cases h), k, h3, comp, h4⟩, k, comp, h3, h4, h1, h5⟩
theorem lw_K {s : State} {b : Nat} (hts : ∀ w ∈ lw_tbl, w.before #[Value.ref b] s = true) (hT : sx_T s) : ∃ (D : va_G) (cK : Nat → ClassId), va_K D hp_cl (hp_tys cK) s := by
  obtain ⟨c0, i0, h0⟩ := u_known (C := RX0) (T := TX0) (N := 8) (n := 8) hts (fun w h => (hp_in0 w h).1) (hts (.instantiable RX0 8) (wt_1 _ (List.mem_of_getElem? (i := 97) rfl)))
  obtain ⟨c1, i1, h1⟩ := u_known (C := RX1) (T := TX1) (N := 3) (n := 3) hts (fun w h => (hp_in1 w h).1) (hts (.instantiable RX1 3) (wt_1 _ (List.mem_of_getElem? (i := 140) rfl)))
  obtain ⟨c2, i2, h2⟩ := u_known (C := RX2) (T := TX2) (N := 5) (n := 5) hts (fun w h => (hp_in2 w h).1) (hts (.instantiable RX2 5) (wt_1 _ (List.mem_of_getElem? (i := 156) rfl)))
  obtain ⟨c3, i3, h3⟩ := u_known (C := RX3) (T := TX3) (N := 9) (n := 9) hts (fun w h => (hp_in3 w h).1) (hts (.instantiable RX3 9) (wt_1 _ (List.mem_of_getElem? (i := 20) rfl)))
  obtain ⟨c4, i4, h4⟩ := u_known (C := RX4) (T := TX4) (N := 5) (n := 5) hts (fun w h => (hp_in4 w h).1) (hts (.instantiable RX4 5) (wt_1 _ (List.mem_of_getElem? (i := 26) rfl)))
  obtain ⟨c5, i5, h5⟩ := u_known (C := RX5) (T := TX5) (N := 12) (n := 12) hts (fun w h => (hp_in5 w h).1) (hts (.instantiable RX5 12) (wt_1 _ (List.mem_of_getElem? (i := 12) rfl)))
  obtain ⟨c6, i6, h6⟩ := u_known (C := RX6) (T := TX6) (N := 24) (n := 24) hts (fun w h => (hp_in6 w h).1) (hts (.instantiable RX6 24) (wt_3 _ (List.mem_of_getElem? (i := 124) rfl)))
  obtain ⟨a0, p0, q0⟩ := lw_arr (ty := .int) (fun C h => by cases h) (hts _ (wt_1 _ (List.mem_of_getElem? (i := 60) rfl)))
  obtain ⟨a1, p1, q1⟩ := lw_arr (ty := .boolean) (fun C h => by cases h) (hts _ (wt_1 _ (List.mem_of_getElem? (i := 155) rfl)))
  obtain ⟨a2, p2, q2⟩ := lw_arrO hT.2.2.1
  obtain ⟨a3, p3, q3⟩ := lw_arrO hT.2.2.2
  refine ⟨(fun k => match k with | 0 => c0 | 1 => c1 | 2 => c2 | 3 => c3 | 4 => c4 | 5 => c5 | _ => c6, fun k => match k with | 0 => i0 | 1 => i1 | 2 => i2 | 3 => i3 | 4 => i4 | 5 => i5 | _ => i6), fun k => match k with | 0 => a0 | 1 => a1 | 2 => a2 | _ => a3, ?_, ?_⟩
  · intro c q hq
    match c, hq with
    | 0, hq => cases hq; exact h0
    | 1, hq => cases hq; exact h1
    | 2, hq => cases hq; exact h2
    | 3, hq => cases hq; exact h3
    | 4, hq => cases hq; exact h4
    | 5, hq => cases hq; exact h5
    | 6, hq => cases hq; exact h6
    | k + 7, hq => simp [hp_cl] at hq
  · intro k q hq
    match k, hq with
    | 0, hq => cases hq; exact ⟨p0, q0⟩
    | 1, hq => cases hq; exact ⟨p1, q1⟩
    | 2, hq => cases hq; exact ⟨p2, q2⟩
    | 3, hq => cases hq; exact ⟨p3, q3⟩
    | k + 4, hq => simp [hp_tys] at hq
/-- THE LAW, out of its run over the picture -/
theorem law_from {p : Program} {e : Env} {s : State} {m : MethodId} {below : List Frame} {meth : Method} {c : Code} (l : Launch) {b L : Nat} {xs : Nat → Int32} (C0 : lw_At p s m meth c b L xs) {G' : hp_G} (hG : G'.2.2.2 ≤ 113) (h : sx_ev (P_L_law L xs) (0, [(0, .float 0)], [], g0) = some (some (.int 1), G')) : W p l e room_1 s m #[Value.ref b] below meth c s.heap [] 0 0 (lw_Z below #[Value.ref b] s) (entryFrame m ([Value.ref b] : List Value).toArray 4) := by
  obtain ⟨hx, hb, hr, hml, hown, hts, hX, hbl, hlocks, hgv⟩ := id C0
  have hT : sx_T s := lw_good (p := p) hts
  obtain ⟨D, cK, hK⟩ := lw_K hts hT
  obtain ⟨n, hn⟩ := (sx_evI _).mp h
  have ht : hp_tot G'.2.2.2 ≤ hp_tot 113 := hp_totLe hG
  have h113 : hp_tot 113 ≤ 7302250 := by decide +kernel
  have hc : room_1.cells = 600000 := rfl
  have hs : room_1.slots = 7302250 := rfl
  have hrm : sx_rm room_1 0 G'.2.2.2 := ⟨by rw [hc]; omega, by rw [hs]; exact Nat.le_trans (Nat.le_trans ht h113) (Nat.le_add_left _ _)⟩
  have key := sx_walk (Q := lw_Z below #[Value.ref b] s) (meth := meth) (l := l) (e := e) (args := #[Value.ref b]) (below := below) (R := room_1) (b := b) (ba := s.heap.size) (n0 := 0) hx hb hml hown hT hK (by rw [Nat.add_zero]) (P := P_L_law L xs) (r := (some (.int 1), G')) hrm (fun L' xs' hq => by cases hq; exact ⟨hX, hbl, hbl⟩) (q_L_law L xs) (ini := false) (fun hq => by cases hq) (g_L_law L xs) ?_ n _ hn
  · rw [lg_entry_eq]
    have hl := lv_entry ([.ref b]) (n := 4) (Nat.le_of_ble_eq_true rfl)
    generalize (lg_sl ([.ref b]) ++ List.replicate (4 - (lg_sl ([.ref b])).length) Slot.unset).toArray = ls at hl ⊢
    exact key s.heap [] 0 0 ls ⟨fun k q hq => by simp [hp_w, g0] at hq, va_S.rf, rfl, rfl⟩ ⟨hl, fun q hq => by rw [List.mem_singleton.mp hq]; rfl⟩
  · intro H locs cells slots pc lsA hH hrt
    rcases hrt with ⟨x, hv, hd, hty⟩ | ⟨x, hv, hd, hty⟩ | ⟨hv, hd, hty⟩
    · cases hv
      obtain ⟨g1, g2, g3, g4⟩ := hH
      dsimp only at g3 g4
      refine va_forget (fun q hq => g2.2.2 q hq) ?_
      refine W.widen (k := 600000) (n := 7302250) (by omega) (Nat.le_trans (Nat.le_add_right _ _) (by rw [g4]; exact Nat.le_trans ht h113)) ?_
      exact lw_ret hx hb hr hlocks hd
    · cases hv
    · cases hv
