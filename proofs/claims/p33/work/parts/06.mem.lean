/-! fields -/
section SXB
variable {p : Program} {l : Launch} {e : Env} {R : Room} {s : State} {m : MethodId} {args : Array Value} {below : List Frame} {meth : Method} {c : Code} {Q : State → Prop}
variable {D : va_G} {cK : Nat → ClassId} {ba b n0 nL : Nat} {H0 : Heap} {cc : ByteArray} {own : String}
theorem hp_in0 : ∀ w ∈ u_ws RX0 TX0 8, w ∈ lw_tbl ∧ goodWord w = true := by decide +kernel
theorem hp_in1 : ∀ w ∈ u_ws RX1 TX1 3, w ∈ lw_tbl ∧ goodWord w = true := by decide +kernel
theorem hp_in2 : ∀ w ∈ u_ws RX2 TX2 5, w ∈ lw_tbl ∧ goodWord w = true := by decide +kernel
theorem hp_in3 : ∀ w ∈ u_ws RX3 TX3 9, w ∈ lw_tbl ∧ goodWord w = true := by decide +kernel
theorem hp_in4 : ∀ w ∈ u_ws RX4 TX4 5, w ∈ lw_tbl ∧ goodWord w = true := by decide +kernel
theorem hp_in5 : ∀ w ∈ u_ws RX5 TX5 12, w ∈ lw_tbl ∧ goodWord w = true := by decide +kernel
theorem hp_in6 : ∀ w ∈ u_ws RX6 TX6 24, w ∈ lw_tbl ∧ goodWord w = true := by decide +kernel
theorem hp_in {ci : Nat} (h : ci < 7) : ∀ w ∈ u_ws (hp_R ci) (hp_T ci) (hp_n ci), w ∈ lw_tbl ∧ goodWord w = true := by
  match ci, h with
  | 0, _ => exact hp_in0 | 1, _ => exact hp_in1 | 2, _ => exact hp_in2 | 3, _ => exact hp_in3 | 4, _ => exact hp_in4 | 5, _ => exact hp_in5 | 6, _ => exact hp_in6
  | k + 7, h => omega
theorem hp_uws (hT : sx_T s) {ci : Nat} (h : ci < 7) (A : Array Value) : ∀ w ∈ u_ws (hp_R ci) (hp_T ci) (hp_n ci), w.before A s = true := fun w hw => hT.1 w (hp_in h w hw).1 (hp_in h w hw).2 A
theorem hp_at {G : hp_G} {o ci : Nat} (ho : sx_is G o (0, ci)) : (hp_w cK ba G)[o]? = some (ba + o, .inr (ci, hp_fs ba G ci o)) := by rw [hp_wAt cK ba ho.1, hp_eO ho.2]
theorem g_get0 (hx : p.tables.exec = Jvm.exec) (hb : c.code = cc) (hown : s.vm.findClass own = some m.cls) (hT : sx_T s) (hK : va_K D hp_cl (hp_tys cK) s) {ci k idx : Nat} (hci : ci < 7) (hk : k < hp_n ci) (hlk : (Cond.fieldLink own idx (hp_T ci k).1 (hp_T ci k).2.1 (hp_T ci k).2.2.1).before args s = true)
    {G : hp_G} {H : Heap} {locs : List Loc} {cells slots : Nat} (hH : sx_H D cK ba H0 n0 G H locs cells slots) {o : Nat} (ho : sx_is G o (0, ci)) {pc : Nat} {ls : Array Slot} {rest : List Value} (hd : decode cc pc = .ok (.getfield idx, 3))
    (kk : W p l e R s m args below meth c H locs cells slots Q (F0 m (pc + 3) ls (hp_f ba G ci o k :: rest))) : W p l e R s m args below meth c H locs cells slots Q (F0 m pc ls (.ref (ba + o) :: rest)) :=
  va_get (Ts := u_ws (hp_R ci) (hp_T ci) (hp_n ci)) hx hb (hp_uws hT hci args) (fun w h => h) hown hK hH.1 o (hp_at ho) (hp_clE hci) k hk hlk (fun x h => h) (hp_fsAt ba G ci o hk) hd kk
theorem g_get (hx : p.tables.exec = Jvm.exec) (hb : c.code = cc) (hown : s.vm.findClass own = some m.cls) (hT : sx_T s) (hK : va_K D hp_cl (hp_tys cK) s) {ci k idx : Nat} (hci : ci < 7) (hk : k < hp_n ci) (hlk : (Cond.fieldLink own idx (hp_T ci k).1 (hp_T ci k).2.1 (hp_T ci k).2.2.1).before args s = true)
    {S S' : sx_S} (h : o_get ci k S = some (.inr S')) (hd : decode cc S.1 = .ok (.getfield idx, 3))
    (kk : sx_G p l e R s m args below meth c Q D cK ba b n0 nL H0 S') : sx_G p l e R s m args below meth c Q D cK ba b n0 nL H0 S := by
  obtain ⟨pc, ls, st, G⟩ := S
  simp only [o_get] at h
  split at h
  · rename_i o r
    split at h
    · rename_i ho
      intro H locs cells slots lsA hH hL
      refine g_get0 hx hb hown hT hK hci hk hlk hH ho hd ?_
      have hf : hp_f ba G ci o k = hp_f ba G ci o k := rfl
      conv at hf => rhs; unfold hp_f
      split at h
      · rename_i ht
        cases h
        simp only [ht] at hf
        rw [hf]
        exact kk H locs cells slots lsA hH hL
      · rename_i ht
        cases h
        simp only [ht] at hf
        rw [hf]
        exact kk H locs cells slots lsA hH hL
      · rename_i ht
        cases h
        simp only [ht] at hf
        rw [hf]
        exact kk H locs cells slots lsA hH hL
      · rename_i ht
        cases hq : G.2.2.1 o k with
        | none => rw [hq] at h; cases h
        | some q =>
          rw [hq] at h
          cases h
          simp only [ht, hq] at hf
          rw [hf]
          exact kk H locs cells slots lsA hH hL
      · rename_i ht
        cases hq : G.2.2.1 o k with
        | none => rw [hq] at h; cases h
        | some q =>
          rw [hq] at h
          cases h
          simp only [ht, hq] at hf
          rw [hf]
          exact kk H locs cells slots lsA hH hL
      · cases h
    · cases h
  · cases h
theorem g_put0 (hx : p.tables.exec = Jvm.exec) (hb : c.code = cc) (hown : s.vm.findClass own = some m.cls) (hT : sx_T s) (hK : va_K D hp_cl (hp_tys cK) s) {ci k idx : Nat} (hci : ci < 7) (hk : k < hp_n ci) (hlk : (Cond.fieldLink own idx (hp_T ci k).1 (hp_T ci k).2.1 (hp_T ci k).2.2.1).before args s = true)
    (hfin : (hp_T ci k).2.2.2 = false ∨ ((hp_T ci k).2.2.2 = true ∧ meth.name = "<init>" ∧ (hp_T ci k).1 = own))
    {G G' : hp_G} {H : Heap} {locs : List Loc} {cells slots : Nat} (hH : sx_H D cK ba H0 n0 G H locs cells slots) {o : Nat} (ho : sx_is G o (0, ci)) {v : Value} (hn : narrow (hp_ty ci k) v = v) (hfit : fits (hp_ty ci k) v = true)
    (hN : G'.2.2.2 = G.2.2.2) (hoth : ∀ q, q ≠ o → hp_e cK ba G' q = hp_e cK ba G q) (hof : ∀ j, j ≠ k → hp_f ba G' ci o j = hp_f ba G ci o j) (hkv : hp_f ba G' ci o k = v)
    {pc : Nat} {ls : Array Slot} {rest : List Value} (hd : decode cc pc = .ok (.putfield idx, 3))
    (kk : ∀ (H' : Heap) (locs' : List Loc), sx_H D cK ba H0 n0 G' H' locs' cells slots → W p l e R s m args below meth c H' locs' cells slots Q (F0 m (pc + 3) ls rest)) : W p l e R s m args below meth c H locs cells slots Q (F0 m pc ls (v :: .ref (ba + o) :: rest)) := by
  have hset : (hp_w cK ba G).set o (ba + o, .inr (ci, (hp_fs ba G ci o).set k v)) = hp_w cK ba G' := hp_set hN hoth (by rw [hp_eO ho.2, hp_fsSet hof hkv])
  have hlen : k < (hp_fs ba G ci o).length := by simpa [hp_fs] using hk
  rcases hfin with hfin | ⟨hfin, hin2, hdecl⟩
  · exact va_put (Ts := u_ws (hp_R ci) (hp_T ci) (hp_n ci)) (A := fun q => ba ≤ q) hx hb (hp_uws hT hci args) (fun w h => h) (hp_ty ci) (hp_tyok hci) (hp_nm hci) hown hK hH.1 (hp_D cK ba G) hH.2.1 o (hp_at ho) (hp_clE hci) k hk hlk (fun x h => h) hfin (hp_tyok hci k hk) hn hfit hlen hd (fun H1 locs1 a1 _ a3 => kk H1 locs1 (hH.same hN (by rw [hset] at a1; exact a1) a3))
  · exact va_putF (Ts := u_ws (hp_R ci) (hp_T ci) (hp_n ci)) (A := fun q => ba ≤ q) hx hb (hp_uws hT hci args) (fun w h => h) (hp_ty ci) (hp_tyok hci) (hp_nm hci) hown hK hH.1 (hp_D cK ba G) hH.2.1 o (hp_at ho) (hp_clE hci) k hk hlk (fun x h => h) hfin hin2 hdecl (hp_tyok hci k hk) hn hfit hlen hd (fun H1 locs1 a1 _ a3 => kk H1 locs1 (hH.same hN (by rw [hset] at a1; exact a1) a3))
theorem gi_e {G : hp_G} {o k : Nat} {x : Int32} {q : Nat} (h : q ≠ o) : hp_e cK ba (gi G o k x) q = hp_e cK ba G q := hp_eX (hw_ne _ _ _ h) rfl rfl
theorem gl_e {G : hp_G} {o k : Nat} {x : Int64} {q : Nat} (h : q ≠ o) : hp_e cK ba (gl G o k x) q = hp_e cK ba G q := hp_eX rfl (hw_ne _ _ _ h) rfl
theorem gr_e {G : hp_G} {o k : Nat} {x : Option Nat} {q : Nat} (h : q ≠ o) : hp_e cK ba (gr G o k x) q = hp_e cK ba G q := hp_eX rfl rfl (hw_ne _ _ _ h)
theorem gi_f {G : hp_G} {ci o k j : Nat} {x : Int32} (h : j ≠ k) : hp_f ba (gi G o k x) ci o j = hp_f ba G ci o j := by simp [hp_f, gi, hw, h]
theorem gl_f {G : hp_G} {ci o k j : Nat} {x : Int64} (h : j ≠ k) : hp_f ba (gl G o k x) ci o j = hp_f ba G ci o j := by simp [hp_f, gl, hw, h]
theorem gr_f {G : hp_G} {ci o k j : Nat} {x : Option Nat} (h : j ≠ k) : hp_f ba (gr G o k x) ci o j = hp_f ba G ci o j := by simp [hp_f, gr, hw, h]
theorem g_put (hx : p.tables.exec = Jvm.exec) (hb : c.code = cc) (hown : s.vm.findClass own = some m.cls) (hT : sx_T s) (hK : va_K D hp_cl (hp_tys cK) s) {ci k idx : Nat} (hci : ci < 7) (hk : k < hp_n ci) (hlk : (Cond.fieldLink own idx (hp_T ci k).1 (hp_T ci k).2.1 (hp_T ci k).2.2.1).before args s = true)
    (hfin : (hp_T ci k).2.2.2 = false ∨ ((hp_T ci k).2.2.2 = true ∧ meth.name = "<init>" ∧ (hp_T ci k).1 = own))
    {S S' : sx_S} (h : o_put ci k S = some (.inr S')) (hd : decode cc S.1 = .ok (.putfield idx, 3))
    (kk : sx_G p l e R s m args below meth c Q D cK ba b n0 nL H0 S') : sx_G p l e R s m args below meth c Q D cK ba b n0 nL H0 S := by
  obtain ⟨pc, ls, st, G⟩ := S
  simp only [o_put] at h
  split at h
  · rename_i x o r
    split at h
    · rename_i ht
      split at h
      · rename_i ho
        cases h
        intro H locs cells slots lsA hH hL
        exact g_put0 (G' := gi G o k x) hx hb hown hT hK hci hk hlk hfin hH ho (by rw [ht]; rfl) (by rw [ht]; rfl) rfl (fun q hq => gi_e hq) (fun j hj => gi_f hj) (by simp [hp_f, ht, gi, hw, cv]) hd (fun H' locs' hH' => kk H' locs' cells slots lsA hH' hL)
      · cases h
    · rename_i ht
      split at h
      · rename_i ho
        cases h
        intro H locs cells slots lsA hH hL
        exact g_put0 (G' := gi G o k x) hx hb hown hT hK hci hk hlk hfin hH ho.1 (by rw [ht]; rcases ho.2 with rfl | rfl <;> rfl) (by rw [ht]; rcases ho.2 with rfl | rfl <;> rfl) rfl (fun q hq => gi_e hq) (fun j hj => gi_f hj) (by simp [hp_f, ht, gi, hw, cv]) hd (fun H' locs' hH' => kk H' locs' cells slots lsA hH' hL)
      · cases h
    · cases h
  · rename_i x o r
    split at h
    · rename_i ht
      split at h
      · rename_i ho
        cases h
        intro H locs cells slots lsA hH hL
        exact g_put0 (G' := gl G o k x) hx hb hown hT hK hci hk hlk hfin hH ho (by rw [ht]; rfl) (by rw [ht]; rfl) rfl (fun q hq => gl_e hq) (fun j hj => gl_f hj) (by simp [hp_f, ht, gl, hw, cv]) hd (fun H' locs' hH' => kk H' locs' cells slots lsA hH' hL)
      · cases h
    · cases h
  · rename_i x o r
    split at h
    · rename_i ht
      split at h
      · rename_i ho
        cases h
        intro H locs cells slots lsA hH hL
        exact g_put0 (G' := gr G o k (some x)) (v := .ref (ba + x)) hx hb hown hT hK hci hk hlk hfin hH ho (by rw [ht]; rfl) (by rw [ht]; rfl) rfl (fun q hq => gr_e hq) (fun j hj => gr_f hj) (by simp [hp_f, ht, gr, hw, va_rf]) hd (fun H' locs' hH' => kk H' locs' cells slots lsA hH' hL)
      · cases h
    · rename_i ht
      split at h
      · rename_i ho
        cases h
        intro H locs cells slots lsA hH hL
        exact g_put0 (G' := gr G o k (some x)) (v := .ref (ba + x)) hx hb hown hT hK hci hk hlk hfin hH ho (by rw [ht]; rfl) (by rw [ht]; rfl) rfl (fun q hq => gr_e hq) (fun j hj => gr_f hj) (by simp [hp_f, ht, gr, hw, va_rf]) hd (fun H' locs' hH' => kk H' locs' cells slots lsA hH' hL)
      · cases h
    · cases h
  · cases h
end SXB
