/-! switches, answers, calls -/
section SXE
variable {p : Program} {l : Launch} {e : Env} {R : Room} {s : State} {m : MethodId} {args : Array Value} {below : List Frame} {meth : Method} {c : Code} {Q : State → Prop}
variable {D : va_G} {cK : Nat → ClassId} {ba b n0 nL nE : Nat} {cc : ByteArray} {own : String} {H0 : Heap}
theorem swk_spec {S S' : sx_S} {r : List Value} {d : Nat} {x : Int32} : ∀ {l : List (Int32 × Nat)}, o_swk S r d x l = some (.inr S') → ∃ t, S' = (t, S.2.1, r, S.2.2.2) ∧ ((∃ i : Nat, l[i]? = some (x, t)) ∨ ((∀ (i : Nat) (k : Int32) (t' : Nat), l[i]? = some (k, t') → x ≠ k) ∧ t = d))
  | [], h => by
    cases h
    exact ⟨d, rfl, Or.inr ⟨fun i k t' h => by simp at h, rfl⟩⟩
  | (k, t) :: l, h => by
    simp only [o_swk] at h
    split at h
    · rename_i hk
      cases h
      exact ⟨t, rfl, Or.inl ⟨0, by rw [hk]; rfl⟩⟩
    · rename_i hk
      obtain ⟨t1, h1, h2⟩ := swk_spec h
      refine ⟨t1, h1, ?_⟩
      rcases h2 with ⟨i, hi⟩ | ⟨h2, h3⟩
      · exact Or.inl ⟨i + 1, hi⟩
      · refine Or.inr ⟨fun i k' t' hi => ?_, h3⟩
        cases i with
        | zero => cases hi; exact hk
        | succ i => exact h2 i k' t' hi
def sw_T (pc : Nat) (dflt lo hi : Int) (offs : Array Int) (d : Nat) (l : List (Int32 × Nat)) : Bool :=
  decide ((pc : Int) + dflt = (d : Int)) && decide ((l.length : Int) = hi - lo + 1) && (List.range l.length).all (fun i => match l[i]?, offs[i]? with
    | some (k, t), some o => decide (k.toInt = lo + (i : Int)) && decide ((pc : Int) + o = (t : Int))
    | _, _ => false)
theorem sw_Tat {pc : Nat} {dflt lo hi : Int} {offs : Array Int} {d : Nat} {l : List (Int32 × Nat)} (h : sw_T pc dflt lo hi offs d l = true) {i : Nat} (hi' : i < l.length) : ∃ k t o, l[i]? = some (k, t) ∧ offs[i]? = some o ∧ k.toInt = lo + (i : Int) ∧ (pc : Int) + o = (t : Int) := by
  simp only [sw_T, Bool.and_eq_true] at h
  have h1 := List.all_eq_true.mp h.2 i (List.mem_range.mpr hi')
  cases hl : l[i]? with
  | none => rw [hl] at h1; simp at h1
  | some q =>
    cases ho : offs[i]? with
    | none => rw [hl, ho] at h1; simp at h1
    | some o =>
      rw [hl, ho] at h1
      simp only [Bool.and_eq_true, decide_eq_true_eq] at h1
      exact ⟨q.1, q.2, o, rfl, rfl, h1.1, h1.2⟩
theorem g_swT (hx : p.tables.exec = Jvm.exec) (hb : c.code = cc) {dflt lo hi : Int} {offs : Array Int} {len d : Nat} {sw : List (Int32 × Nat)} {S S' : sx_S} (h : o_sw d sw S = some (.inr S')) (hd : decode cc S.1 = .ok (.tableswitch dflt lo hi offs, len)) (hk : sw_T S.1 dflt lo hi offs d sw = true)
    (k : sx_G p l e R s m args below meth c Q D cK ba b n0 nL H0 S') : sx_G p l e R s m args below meth c Q D cK ba b n0 nL H0 S := by
  obtain ⟨pc, ls, st, G⟩ := S
  simp only [o_sw] at h
  split at h
  · rename_i x r
    intro H locs cells slots lsA hH hL
    have hk' := hk
    simp only [sw_T, Bool.and_eq_true, decide_eq_true_eq] at hk'
    obtain ⟨⟨hk1, hk2⟩, -⟩ := hk'
    obtain ⟨t, rfl, ht⟩ := swk_spec h
    rcases ht with ⟨i, hi'⟩ | ⟨hno, rfl⟩
    · have hil : i < sw.length := (List.getElem?_eq_some_iff.mp hi').1
      obtain ⟨k1, t1, o, a1, a2, a3, a4⟩ := sw_Tat hk hil
      rw [hi'] at a1
      cases a1
      refine lv_tableIn hx hb hd (by omega) (by omega) (off := o) ?_ a4 (k H locs cells slots lsA hH hL)
      rw [show (x.toInt - lo).toNat = i by omega]
      exact a2
    · refine lv_tableOut hx hb hd ?_ hk1 (k H locs cells slots lsA hH hL)
      rcases Int.lt_or_le x.toInt lo with q | q
      · exact Or.inl q
      · rcases Int.lt_or_le hi x.toInt with q2 | q2
        · exact Or.inr q2
        · exfalso
          have hil : (x.toInt - lo).toNat < sw.length := by omega
          obtain ⟨k1, t1, o, a1, a2, a3, a4⟩ := sw_Tat hk hil
          exact hno _ _ _ a1 (Int32.toInt_inj.mp (by omega))
  · cases h
def sw_L (pc : Nat) (dflt : Int) (ps : Array (Int × Int)) (d : Nat) (l : List (Int32 × Nat)) : Bool :=
  decide ((pc : Int) + dflt = (d : Int)) && (ps.toList.zip (ps.toList.drop 1)).all (fun (a, next) => a.1 < next.1) && decide (ps.toList = l.map (fun q => (q.1.toInt, (q.2 : Int) - (pc : Int))))
theorem sw_Loff {pc d : Nat} {dflt : Int} {x : Int32} {S S' : sx_S} {r : List Value} (hd : (pc : Int) + dflt = (d : Int)) : ∀ {l : List (Int32 × Nat)}, o_swk S r d x l = some (.inr S') → ∃ t : Nat, S' = (t, S.2.1, r, S.2.2.2) ∧ (pc : Int) + Op.lookupswitch.offset (l.map (fun q => (q.1.toInt, (q.2 : Int) - (pc : Int)))) dflt x.toInt = (t : Int)
  | [], h => by
    cases h
    exact ⟨d, rfl, hd⟩
  | (k, t) :: l, h => by
    simp only [o_swk] at h
    split at h
    · rename_i hk
      cases h
      refine ⟨t, rfl, ?_⟩
      rw [List.map_cons, Op.lookupswitch.offset_cons, if_pos (by rw [hk])]
      omega
    · rename_i hk
      obtain ⟨t1, h1, h2⟩ := sw_Loff hd h
      refine ⟨t1, h1, ?_⟩
      rw [List.map_cons, Op.lookupswitch.offset_cons, if_neg (fun q => hk (Int32.toInt_inj.mp q.symm))]
      exact h2
theorem g_swL (hx : p.tables.exec = Jvm.exec) (hb : c.code = cc) {dflt : Int} {ps : Array (Int × Int)} {len d : Nat} {sw : List (Int32 × Nat)} {S S' : sx_S} (h : o_sw d sw S = some (.inr S')) (hd : decode cc S.1 = .ok (.lookupswitch dflt ps, len)) (hk : sw_L S.1 dflt ps d sw = true)
    (k : sx_G p l e R s m args below meth c Q D cK ba b n0 nL H0 S') : sx_G p l e R s m args below meth c Q D cK ba b n0 nL H0 S := by
  obtain ⟨pc, ls, st, G⟩ := S
  simp only [o_sw] at h
  split at h
  · rename_i x r
    intro H locs cells slots lsA hH hL
    simp only [sw_L, Bool.and_eq_true, decide_eq_true_eq] at hk
    obtain ⟨⟨hk1, hk2⟩, hk3⟩ := hk
    obtain ⟨t, rfl, ht⟩ := sw_Loff (pc := pc) hk1 h
    exact lv_lookup hx hb hd hk2 (by rw [hk3]) ht (k H locs cells slots lsA hH hL)
  · cases h
/-- a method's end -/
def sx_rt (cc : ByteArray) (rt : Option FieldType) (v : Option Value) (pc : Nat) : Prop := (∃ x, v = some (.int x) ∧ decode cc pc = .ok (.ireturn, 1) ∧ (rt = some .int ∨ (rt = some .boolean ∧ sx_01 x))) ∨ (∃ x, v = some (.long x) ∧ decode cc pc = .ok (.lreturn, 1) ∧ rt = some .long) ∨ (v = none ∧ decode cc pc = .ok (.return_, 1) ∧ rt = none)
theorem iret_spec {rt : Option FieldType} {S : sx_S} {r : sx_R} (h : o_iret rt S = some (.inl r)) (hd : decode cc S.1 = .ok (.ireturn, 1)) : S.2.2.1 = r.1.toList ∧ r.2 = S.2.2.2 ∧ sx_rt cc rt r.1 S.1 := by
  obtain ⟨pc, ls, st, G⟩ := S
  simp only [o_iret] at h
  split at h
  · rename_i x
    split at h
    · cases h
      exact ⟨rfl, rfl, Or.inl ⟨x, rfl, hd, Or.inl rfl⟩⟩
    · split at h
      · rename_i hx
        cases h
        exact ⟨rfl, rfl, Or.inl ⟨x, rfl, hd, Or.inr ⟨rfl, hx⟩⟩⟩
      · cases h
    · cases h
  · cases h
theorem iret_no {rt : Option FieldType} {S S' : sx_S} (h : o_iret rt S = some (.inr S')) : False := by
  simp only [o_iret] at h
  split at h
  · split at h
    · cases h
    · split at h <;> cases h
    · cases h
  · cases h
theorem lret_spec {rt : Option FieldType} {S : sx_S} {r : sx_R} (h : o_lret rt S = some (.inl r)) (hd : decode cc S.1 = .ok (.lreturn, 1)) : S.2.2.1 = r.1.toList ∧ r.2 = S.2.2.2 ∧ sx_rt cc rt r.1 S.1 := by
  obtain ⟨pc, ls, st, G⟩ := S
  simp only [o_lret] at h
  split at h
  · rename_i x
    split at h
    · cases h
      exact ⟨rfl, rfl, Or.inr (Or.inl ⟨x, rfl, hd, rfl⟩)⟩
    · cases h
  · cases h
theorem lret_no {rt : Option FieldType} {S S' : sx_S} (h : o_lret rt S = some (.inr S')) : False := by
  simp only [o_lret] at h
  split at h
  · split at h <;> cases h
  · cases h
theorem vret_spec {rt : Option FieldType} {S : sx_S} {r : sx_R} (h : o_vret rt S = some (.inl r)) (hd : decode cc S.1 = .ok (.return_, 1)) : S.2.2.1 = r.1.toList ∧ r.2 = S.2.2.2 ∧ sx_rt cc rt r.1 S.1 := by
  obtain ⟨pc, ls, st, G⟩ := S
  simp only [o_vret] at h
  split at h
  · split at h
    · cases h
      exact ⟨rfl, rfl, Or.inr (Or.inr ⟨rfl, hd, rfl⟩)⟩
    · cases h
  · cases h
theorem vret_no {rt : Option FieldType} {S S' : sx_S} (h : o_vret rt S = some (.inr S')) : False := by
  simp only [o_vret] at h
  split at h
  · split at h <;> cases h
  · cases h
theorem bI_some {α : Type} {r : Option sx_R} {k : Int32 → hp_G → Option α} {z : α} (h : bI r k = some z) : ∃ x G', r = some (some (.int x), G') ∧ k x G' = some z := by
  simp only [bI] at h
  split at h
  · exact ⟨_, _, rfl, h⟩
  · cases h
theorem bL_some {α : Type} {r : Option sx_R} {k : Int64 → hp_G → Option α} {z : α} (h : bL r k = some z) : ∃ x G', r = some (some (.long x), G') ∧ k x G' = some z := by
  simp only [bL] at h
  split at h
  · exact ⟨_, _, rfl, h⟩
  · cases h
theorem bV_some {α : Type} {r : Option sx_R} {k : hp_G → Option α} {z : α} (h : bV r k = some z) : ∃ G', r = some (none, G') ∧ k G' = some z := by
  simp only [bV] at h
  split at h
  · exact ⟨_, rfl, h⟩
  · cases h
theorem back_spec {S S' : sx_S} {rest : List Value} {rt : Option FieldType} {r : Option sx_R} (h : o_back S rest rt r = some (.inr S')) : ∃ v G', r = some (v, G') ∧ S' = (S.1 + 3, S.2.1, v.toList ++ rest, G') := by
  simp only [o_back] at h
  split at h
  · obtain ⟨G', h1, h2⟩ := bV_some h
    cases h2
    exact ⟨none, G', h1, rfl⟩
  · obtain ⟨x, G', h1, h2⟩ := bL_some h
    cases h2
    exact ⟨some (.long x), G', h1, rfl⟩
  · obtain ⟨x, G', h1, h2⟩ := bI_some h
    cases h2
    exact ⟨some (.int x), G', h1, rfl⟩
theorem back_no {S : sx_S} {rest : List Value} {rt : Option FieldType} {r : Option sx_R} {z : sx_R} (h : o_back S rest rt r = some (.inl z)) : False := by
  simp only [o_back] at h
  split at h
  · obtain ⟨G', h1, h2⟩ := bV_some h
    cases h2
  · obtain ⟨x, G', h1, h2⟩ := bL_some h
    cases h2
  · obtain ⟨x, G', h1, h2⟩ := bI_some h
    cases h2
theorem tk_spec : ∀ {n : Nat} {st as as' rest : List Value}, tk n st as = some (as', rest) → ∃ us : List Value, us.length = n ∧ st = us ++ rest ∧ as' = us.reverse ++ as
  | 0, st, as, as', rest, h => by
    cases h
    exact ⟨[], rfl, rfl, rfl⟩
  | n + 1, v :: st, as, as', rest, h => by
    obtain ⟨us, h1, h2, h3⟩ := tk_spec (n := n) h
    exact ⟨v :: us, by simp [h1], by simp [h2], by simp [h3]⟩
  | n + 1, [], as, as', rest, h => by cases h
theorem tk_0 {n : Nat} {st as rest : List Value} (h : tk n st [] = some (as, rest)) : as.length = n ∧ st = as.reverse ++ rest := by
  obtain ⟨us, h1, h2, h3⟩ := tk_spec h
  simp only [List.append_nil] at h3
  subst h3
  exact ⟨by simp [h1], by simp [h2]⟩
/-- behind a call -/
theorem g_run (hs0 : s.heap.size = ba + n0) {G G' : hp_G} {v : Option Value} {H : Heap} {locs : List Loc} {cells slots pc : Nat} {lsA : Array Slot} {st0 rest : List Value} {a : Array Value} (hH : sx_H D cK ba s.heap n0 G H locs cells slots) (hle : G.2.2.2 ≤ G'.2.2.2)
    (hr : va_Run p l e R s m args below meth c H locs cells slots (G'.2.2.2 - G.2.2.2) (hp_tot G'.2.2.2 - hp_tot G.2.2.2) (F0 m pc lsA st0) rest (sx_Q D cK ba b v G' a) (fun q => ba ≤ q))
    (kk : ∀ (H' : Heap) (locs' : List Loc) (cells' slots' : Nat), sx_H D cK ba s.heap n0 G' H' locs' cells' slots' → W p l e R s m args below meth c H' locs' cells' slots' Q (F0 m (pc + 3) lsA ((v.map (cv ba b)).toList ++ rest))) : W p l e R s m args below meth c H locs cells slots Q (F0 m pc lsA st0) := by
  intro T hT X
  obtain ⟨v', st₀, t, T', L, h0, X', hL, e1, e2, ⟨hv, hz, hP, hk⟩, st⟩ := hr T hT X
  cases hv
  obtain ⟨g1, g2, g3, g4⟩ := hH
  have ht := hp_totLe hle
  obtain ⟨t2, a1, b1⟩ := kk T'.heap (locs ++ L) _ _ ⟨by rw [e1]; exact hP, ⟨by rw [e1, hz, hs0]; omega, fun q h1 h2 => by
      rw [e1, hk q (Nat.not_le.mp h2), h0]
      exact g2.2.1 q h1 h2, fun q hq => by
      rcases List.mem_append.mp hq with h | h
      · exact g2.2.2 q h
      · exact hL q h⟩, by omega, by omega⟩ T' rfl X'
  exact ⟨t2, st t2 a1, b1⟩
/-- the words of a callee, and that it fits -/
def sx_cw (R : Room) (s : State) (args : Array Value) (own : String) (idx : Nat) (d : sx_M) (n : Nat) : Prop :=
  Cond.code d.1 d.2.1 d.2.2.1 d.2.2.2.1 ∈ lw_tbl ∧ (Cond.initialized d.1.cls).before args s = true ∧ (d.1.cls ≠ "java/lang/invoke/MethodHandle" ∧ d.1.cls ≠ "java/lang/invoke/VarHandle") ∧ (parseMethodDescriptor d.1.desc).map (fun d => d.parameters.length) = some n ∧ (d.2.2.2.2.1 + 1 ≤ R.frames ∧ 8 + (d.2.2.1 + 11) + d.2.2.2.2.2.1 ≤ R.locals)
theorem sx_cwB (hT : sx_T s) {idx n : Nat} {d : sx_M} (h : sx_cw R s args own idx d n) (hl : (Cond.methodLink own idx d.1).before args s = true) (mc ms : Nat) : CallB R s args own idx d.1 d.2.1 d.2.2.1 d.2.2.2.1 [Cond.code d.1 d.2.1 d.2.2.1 d.2.2.2.1] ({ frames := d.2.2.2.2.1, cells := mc, slots := ms, locals := d.2.2.2.2.2.1 } : Room) mc ms n := by
  obtain ⟨h1, h3, h4, h5, h6, h7⟩ := h
  have h2 : goodWord (Cond.code d.1 d.2.1 d.2.2.1 d.2.2.2.1) = true := rfl
  refine ⟨rfl, rfl, h6, h7, fun w hw a' U hW => ?_, List.mem_singleton.mpr rfl, hT.1 _ h1 h2 args, h3, h4, fun sig hs => ?_, hl⟩
  · rw [List.mem_singleton.mp hw]
    exact (hT.moved hW).1 _ h1 h2 a'
  · rw [hs] at h5
    exact (Option.some.inj h5).symm
theorem sx_cwN (hT : sx_T s) {idx n : Nat} {d : sx_M} {host : String} (h : sx_cw R s args own idx d n) (hl : va_Nw (.methodLinkNest own idx d.1 host) s) (mc ms : Nat) : va_CN R s args own idx d.1 host d.2.1 d.2.2.1 d.2.2.2.1 [Cond.code d.1 d.2.1 d.2.2.1 d.2.2.2.1] ({ frames := d.2.2.2.2.1, cells := mc, slots := ms, locals := d.2.2.2.2.2.1 } : Room) mc ms n := by
  obtain ⟨h1, h3, h4, h5, h6, h7⟩ := h
  have h2 : goodWord (Cond.code d.1 d.2.1 d.2.2.1 d.2.2.2.1) = true := rfl
  refine ⟨⟨rfl, rfl, h6, h7, fun w hw a' U hW => ?_, List.mem_singleton.mpr rfl⟩, hT.1 _ h1 h2 args, h3, h4, fun sig hs => ?_, va_Nw.use rfl hl⟩
  · rw [List.mem_singleton.mp hw]
    exact (hT.moved hW).1 _ h1 h2 a'
  · rw [hs] at h5
    exact (Option.some.inj h5).symm
theorem sx_pre {As : List Value} {G : hp_G} {H : Heap} (hT : sx_T s) (hK : va_K D hp_cl (hp_tys cK) s) (hz : H.size = ba + G.2.2.2) (hP : va_P D hp_cl (hp_w cK ba G) H) : PreS s H (sx_Pre D cK ba b As G) (As.map (cv ba b)) :=
  ⟨sx_blind D cK ba b As G, fun U hU hW => ⟨rfl, by rw [hU]; exact hz, by rw [hU]; exact hP, va_K.moved hW.alike hK, hT.moved hW⟩⟩
/-- a static call, of its own class or of a nest mate -/
theorem g_callS (hx : p.tables.exec = Jvm.exec) (hb : c.code = cc) (hml : c.maxLocals = nL) (hown : s.vm.findClass own = some m.cls) (hT : sx_T s) (hK : va_K D hp_cl (hp_tys cK) s) (hs0 : s.heap.size = ba + n0) (hrm : sx_rm R n0 nE) {idx : Nat} {d : sx_M} {f : sx_F} (hok : sx_ok d f) (hcw : sx_cw R s args own idx d d.2.2.2.2.2.2) (hst : (Cond.static d.1).before args s = true)
    (hl : (Cond.methodLink own idx d.1).before args s = true ∨ ∃ host, va_Nw (.methodLinkNest own idx d.1 host) s)
    {S S' : sx_S} (h : o_call (d, f) S = some (.inr S')) (hE : S'.2.2.2.2.2.2 ≤ nE) (hd : decode cc S.1 = .ok (.invokestatic idx, 3))
    (kk : sx_G p l e R s m args below meth c Q D cK ba b n0 nL s.heap S') : sx_G p l e R s m args below meth c Q D cK ba b n0 nL s.heap S := by
  obtain ⟨pc, ls, st, G⟩ := S
  simp only [o_call] at h
  split at h
  · rename_i as rest htk
    cases hr4 : Nat.ble rest.length 4 with
    | false => rw [hr4] at h; cases h
    | true =>
      rw [hr4] at h
      obtain ⟨v, G', hf, rfl⟩ := back_spec h
      obtain ⟨hlen, hstk⟩ := tk_0 htk
      obtain ⟨hle, hM⟩ := hok.2 as G v G' hf
      have hE : G'.2.2.2 ≤ nE := hE
      have hr1 := hrm.1
      have hr2 := hrm.2
      have ht1 := hp_totLe hle
      have ht2 := hp_totLe hE
      subst hstk
      intro H locs cells slots lsA hH hL
      have z2 : cells + n0 = G.2.2.2 := hH.2.2.1
      have z3 : slots + hp_tot n0 = hp_tot G.2.2.2 := hH.2.2.2
      refine sx_size hs0 hH (fun hz => ?_)
      have hfx : CallFix p m c cc nL s args [] own := ⟨hx, hb, hml, hown, fun w hw => by cases hw⟩
      have hstk : (F0 m pc lsA ((as.reverse ++ rest).map (cv ba b))).stack = (as.map (cv ba b)).reverse ++ rest.map (cv ba b) := by
        show (as.reverse ++ rest).map (cv ba b) = _
        rw [List.map_append, List.map_reverse]
      have hfit : cells + (G'.2.2.2 - G.2.2.2) ≤ R.cells ∧ slots + (hp_tot G'.2.2.2 - hp_tot G.2.2.2) ≤ R.slots := ⟨by omega, by omega⟩
      have run : va_Run p l e R s m args below meth c H locs cells slots (G'.2.2.2 - G.2.2.2) (hp_tot G'.2.2.2 - hp_tot G.2.2.2) (F0 m pc lsA ((as.reverse ++ rest).map (cv ba b))) (rest.map (cv ba b)) (sx_Q D cK ba b v G' (as.map (cv ba b)).toArray) (fun q => ba ≤ q) := by
        rcases hl with hl | ⟨host, hl⟩
        · exact va_runS hfx (hM l D cK ba b) ⟨sx_cwB hT hcw hl _ _, hst⟩ (sx_pre hT hK hz hH.1) rfl (by rw [List.length_map, hlen]) hL.1.1 hstk (lv_room (sx_cat8 hr4 ba b)) hd hfit
        · exact va_runSN hfx (hM l D cK ba b) ⟨sx_cwN hT hcw hl _ _, hst, trivial⟩ (sx_pre hT hK hz hH.1) rfl (by rw [List.length_map, hlen]) hL.1.1 hstk (lv_room (sx_cat8 hr4 ba b)) hd hfit
      refine g_run hs0 hH hle run (fun H' locs' cells' slots' hH' => ?_)
      have := kk H' locs' cells' slots' lsA hH' hL
      cases v <;> exact this
  · cases h
/-- a call of an object's method -/
theorem g_callV (hx : p.tables.exec = Jvm.exec) (hb : c.code = cc) (hml : c.maxLocals = nL) (hown : s.vm.findClass own = some m.cls) (hT : sx_T s) (hK : va_K D hp_cl (hp_tys cK) s) (hs0 : s.heap.size = ba + n0) (hrm : sx_rm R n0 nE) {idx ci n : Nat} (hci : ci < 7) {d : sx_M} {f : sx_F} (hok : sx_ok d f) (hcw : sx_cw R s args own idx d n) (hn : n + 1 = d.2.2.2.2.2.2) (hin : (Cond.instanceMethod d.1).before args s = true) (hsel : (Cond.selects (hp_R ci) d.1 d.1).before args s = true)
    (hl : (Cond.methodLink own idx d.1).before args s = true)
    {S S' : sx_S} (h : o_callV (d, f) ci S = some (.inr S')) (hE : S'.2.2.2.2.2.2 ≤ nE) (hd : decode cc S.1 = .ok (.invokevirtual idx, 3))
    (kk : sx_G p l e R s m args below meth c Q D cK ba b n0 nL s.heap S') : sx_G p l e R s m args below meth c Q D cK ba b n0 nL s.heap S := by
  obtain ⟨pc, ls, st, G⟩ := S
  simp only [o_callV] at h
  split at h
  · rename_i o as rest htk
    cases hr4 : Nat.ble rest.length 4 with
    | false => rw [hr4] at h; cases h
    | true =>
      rw [hr4, cond_true] at h
      split at h
      · rename_i ho
        obtain ⟨v, G', hf, rfl⟩ := back_spec h
        obtain ⟨hlen, hstk⟩ := tk_0 htk
        obtain ⟨hle, hM⟩ := hok.2 _ G v G' hf
        have hE : G'.2.2.2 ≤ nE := hE
        have hr1 := hrm.1
        have hr2 := hrm.2
        have ht1 := hp_totLe hle
        have ht2 := hp_totLe hE
        subst hstk
        intro H locs cells slots lsA hH hL
        have z2 : cells + n0 = G.2.2.2 := hH.2.2.1
        have z3 : slots + hp_tot n0 = hp_tot G.2.2.2 := hH.2.2.2
        refine sx_size hs0 hH (fun hz => ?_)
        have hfx : CallFix p m c cc nL s args [] own := ⟨hx, hb, hml, hown, fun w hw => by cases hw⟩
        have hstk : (F0 m pc lsA (((.ref o :: as).reverse ++ rest).map (cv ba b))).stack = (as.map (cv ba b)).reverse ++ .ref (ba + o) :: rest.map (cv ba b) := by
          show ((.ref o :: as).reverse ++ rest).map (cv ba b) = _
          simp [List.map_append, List.map_reverse, cv]
        have hfit : cells + (G'.2.2.2 - G.2.2.2) ≤ R.cells ∧ slots + (hp_tot G'.2.2.2 - hp_tot G.2.2.2) ≤ R.slots := ⟨by omega, by omega⟩
        have hp := sx_pre (As := .ref o :: as) (b := b) hT hK hz hH.1
        have run := va_runV (b := ba + o) hfx (hM l D cK ba b) (C := hp_R ci) (e := e) (below := below) (meth := meth) (locs := locs) (g := F0 m pc lsA (((.ref o :: as).reverse ++ rest).map (cv ba b))) (As := as.map (cv ba b)) (rest := rest.map (cv ba b)) ⟨sx_cwB hT hcw hl _ _, hin, hsel⟩ ⟨hp.1, va_recv hK hH.1 (hp_clE hci) (hp_at ho), hp.2⟩ rfl (by rw [List.length_map]; simp only [List.length_cons] at hlen; omega) hL.1.1 hstk (lv_room (sx_cat8 hr4 ba b)) hd hfit
        refine g_run hs0 hH hle run (fun H' locs' cells' slots' hH' => ?_)
        have := kk H' locs' cells' slots' lsA hH' hL
        cases v <;> exact this
      · cases h
  · cases h
/-- a constructor's call, of its own class or of a nest mate -/
theorem g_callI (hx : p.tables.exec = Jvm.exec) (hb : c.code = cc) (hml : c.maxLocals = nL) (hown : s.vm.findClass own = some m.cls) (hT : sx_T s) (hK : va_K D hp_cl (hp_tys cK) s) (hs0 : s.heap.size = ba + n0) (hrm : sx_rm R n0 nE) {idx n : Nat} {d : sx_M} {f : sx_F} (hok : sx_ok d f) (hcw : sx_cw R s args own idx d n) (hrt : d.2.2.2.1 = none) (hn : n + 1 = d.2.2.2.2.2.2) (hnm : d.1.name = "<init>") (hin : (Cond.instanceMethod d.1).before args s = true)
    (hl : (Cond.methodLink own idx d.1).before args s = true ∨ ∃ host, va_Nw (.methodLinkNest own idx d.1 host) s)
    {S S' : sx_S} (h : o_callI (d, f) S = some (.inr S')) (hE : S'.2.2.2.2.2.2 ≤ nE) (hd : decode cc S.1 = .ok (.invokespecial idx, 3))
    (kk : sx_G p l e R s m args below meth c Q D cK ba b n0 nL s.heap S') : sx_G p l e R s m args below meth c Q D cK ba b n0 nL s.heap S := by
  obtain ⟨pc, ls, st, G⟩ := S
  simp only [o_callI] at h
  split at h
  · rename_i o as rest htk
    cases hr4 : Nat.ble rest.length 4 with
    | false => rw [hr4] at h; cases h
    | true =>
      rw [hr4, cond_true] at h
      obtain ⟨v, G', hf, rfl⟩ := back_spec h
      obtain ⟨hlen, hstk⟩ := tk_0 htk
      obtain ⟨hle, hM⟩ := hok.2 _ G v G' hf
      have hE : G'.2.2.2 ≤ nE := hE
      have hr1 := hrm.1
      have hr2 := hrm.2
      have ht1 := hp_totLe hle
      have ht2 := hp_totLe hE
      subst hstk
      intro H locs cells slots lsA hH hL
      have z2 : cells + n0 = G.2.2.2 := hH.2.2.1
      have z3 : slots + hp_tot n0 = hp_tot G.2.2.2 := hH.2.2.2
      refine sx_size hs0 hH (fun hz => ?_)
      have hfx : CallFix p m c cc nL s args [] own := ⟨hx, hb, hml, hown, fun w hw => by cases hw⟩
      have hstk : (F0 m pc lsA (((.ref o :: as).reverse ++ rest).map (cv ba b))).stack = (as.map (cv ba b)).reverse ++ .ref (ba + o) :: rest.map (cv ba b) := by
        show ((.ref o :: as).reverse ++ rest).map (cv ba b) = _
        simp [List.map_append, List.map_reverse, cv]
      have hfit : cells + (G'.2.2.2 - G.2.2.2) ≤ R.cells ∧ slots + (hp_tot G'.2.2.2 - hp_tot G.2.2.2) ≤ R.slots := ⟨by omega, by omega⟩
      have hp := sx_pre (As := .ref o :: as) (b := b) hT hK hz hH.1
      have hM := hM l D cK ba b
      have run : va_Run p l e R s m args below meth c H locs cells slots (G'.2.2.2 - G.2.2.2) (hp_tot G'.2.2.2 - hp_tot G.2.2.2) (F0 m pc lsA (((.ref o :: as).reverse ++ rest).map (cv ba b))) (rest.map (cv ba b)) (sx_Q D cK ba b v G' (.ref (ba + o) :: as.map (cv ba b)).toArray) (fun q => ba ≤ q) := by
        rcases hl with hl | ⟨host, hl⟩
        · have cb := sx_cwB hT hcw hl (G'.2.2.2 - G.2.2.2) (hp_tot G'.2.2.2 - hp_tot G.2.2.2)
          rw [hrt] at cb hM
          exact va_runI hfx hM ⟨cb, hnm, hin⟩ hp rfl (by rw [List.length_map]; simp only [List.length_cons] at hlen; omega) hL.1.1 hstk (lv_room (sx_cat8 hr4 ba b)) hd hfit
        · have cb := sx_cwN hT hcw hl (G'.2.2.2 - G.2.2.2) (hp_tot G'.2.2.2 - hp_tot G.2.2.2)
          rw [hrt] at cb hM
          exact va_runIN hfx hM ⟨cb, hnm, hin⟩ hp rfl (by rw [List.length_map]; simp only [List.length_cons] at hlen; omega) hL.1.1 hstk (lv_room (sx_cat8 hr4 ba b)) hd hfit
      refine g_run hs0 hH hle run (fun H' locs' cells' slots' hH' => ?_)
      have := kk H' locs' cells' slots' lsA hH' hL
      cases v <;> exact this
  · cases h
theorem g_obj (hx : p.tables.exec = Jvm.exec) (hb : c.code = cc) (hml : c.maxLocals = nL) (hown : s.vm.findClass own = some m.cls) {idx : Nat} (hl : (Cond.methodLink own idx Lib.objectInit).before args s = true) (hin : (Cond.instanceMethod Lib.objectInit).before args s = true) (hcode : (Cond.code Lib.objectInit ⟨#[0xb1]⟩ 1 none).before args s = true) (hfr : 1 ≤ R.frames) (hlo : 20 ≤ R.locals)
    {S S' : sx_S} (h : o_obj S = some (.inr S')) (hd : decode cc S.1 = .ok (.invokespecial idx, 3))
    (kk : sx_G p l e R s m args below meth c Q D cK ba b n0 nL H0 S') : sx_G p l e R s m args below meth c Q D cK ba b n0 nL H0 S := by
  obtain ⟨pc, ls, st, G⟩ := S
  simp only [o_obj] at h
  split at h
  · rename_i o r
    cases hr4 : Nat.ble r.length 4 with
    | false => rw [hr4] at h; cases h
    | true =>
      rw [hr4, cond_true] at h
      cases h
      intro H locs cells slots lsA hH hL
      have h8 := sx_cat8 hr4 ba b
      have h9 := lv_room (m := m) (pc := pc) (ls := lsA) (rest := (.ref (ba + o)) :: r.map (cv ba b)) h8
      exact W.objInit hx hb hown hl hin hcode (g := F0 m pc lsA (.ref (ba + o) :: r.map (cv ba b))) rfl (by rw [hml]; exact hL.1.1) (rest := r.map (cv ba b)) rfl hd hfr (by omega) (kk H locs cells slots lsA hH hL)
  · cases h
theorem g_max (hx : p.tables.exec = Jvm.exec) (hb : c.code = cc) (hml : c.maxLocals = nL) (hown : s.vm.findClass own = some m.cls) (hrm : sx_rm R n0 nE) {idx : Nat} (hl : (Cond.methodLink own idx Lib.Math.max.name).before args s = true) (hst : (Cond.static Lib.Math.max.name).before args s = true) (hin : (Cond.initialized "java/lang/Math").before args s = true) (hcode : (Cond.code Lib.Math.max.name Lib.Math.max.code 2 (some .int)).before args s = true) (hfr : 1 ≤ R.frames) (hlo : 21 ≤ R.locals)
    {S S' : sx_S} (h : o_max S = some (.inr S')) (hE : S'.2.2.2.2.2.2 ≤ nE) (hd : decode cc S.1 = .ok (.invokestatic idx, 3))
    (kk : sx_G p l e R s m args below meth c Q D cK ba b n0 nL H0 S') : sx_G p l e R s m args below meth c Q D cK ba b n0 nL H0 S := by
  obtain ⟨pc, ls, st, G⟩ := S
  simp only [o_max] at h
  split at h
  · rename_i y x r
    cases hr4 : Nat.ble r.length 4 with
    | false => rw [hr4] at h; cases h
    | true =>
      rw [hr4, cond_true] at h
      cases h
      intro H locs cells slots lsA hH hL
      have h8 := sx_cat8 hr4 ba b
      have hE : G.2.2.2 ≤ nE := hE
      have hr1 := hrm.1
      have hr2 := hrm.2
      have ht2 := hp_totLe hE
      have z2 : cells + n0 = G.2.2.2 := hH.2.2.1
      have z3 : slots + hp_tot n0 = hp_tot G.2.2.2 := hH.2.2.2
      exact va_mmax hx hb (by rw [hml]; exact hL.1.1.symm) hown hl hst hin hcode hfr (rest := r.map (cv ba b)) (by omega) (by omega) (by omega) hd (kk H locs cells slots lsA hH hL)
  · cases h
theorem g_min (hx : p.tables.exec = Jvm.exec) (hb : c.code = cc) (hml : c.maxLocals = nL) (hown : s.vm.findClass own = some m.cls) (hrm : sx_rm R n0 nE) {idx : Nat} (hl : (Cond.methodLink own idx Lib.Math.min.name).before args s = true) (hst : (Cond.static Lib.Math.min.name).before args s = true) (hin : (Cond.initialized "java/lang/Math").before args s = true) (hcode : (Cond.code Lib.Math.min.name Lib.Math.min.code 2 (some .int)).before args s = true) (hfr : 1 ≤ R.frames) (hlo : 21 ≤ R.locals)
    {S S' : sx_S} (h : o_min S = some (.inr S')) (hE : S'.2.2.2.2.2.2 ≤ nE) (hd : decode cc S.1 = .ok (.invokestatic idx, 3))
    (kk : sx_G p l e R s m args below meth c Q D cK ba b n0 nL H0 S') : sx_G p l e R s m args below meth c Q D cK ba b n0 nL H0 S := by
  obtain ⟨pc, ls, st, G⟩ := S
  simp only [o_min] at h
  split at h
  · rename_i y x r
    cases hr4 : Nat.ble r.length 4 with
    | false => rw [hr4] at h; cases h
    | true =>
      rw [hr4, cond_true] at h
      cases h
      intro H locs cells slots lsA hH hL
      have h8 := sx_cat8 hr4 ba b
      have hE : G.2.2.2 ≤ nE := hE
      have hr1 := hrm.1
      have hr2 := hrm.2
      have ht2 := hp_totLe hE
      have z2 : cells + n0 = G.2.2.2 := hH.2.2.1
      have z3 : slots + hp_tot n0 = hp_tot G.2.2.2 := hH.2.2.2
      exact va_mmin hx hb (by rw [hml]; exact hL.1.1.symm) hown hl hst hin hcode hfr (rest := r.map (cv ba b)) (by omega) (by omega) (by omega) hd (kk H locs cells slots lsA hH hL)
  · cases h
end SXE
