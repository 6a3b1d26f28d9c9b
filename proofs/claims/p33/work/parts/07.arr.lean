/-! arrays -/
section SXC
variable {p : Program} {l : Launch} {e : Env} {R : Room} {s : State} {m : MethodId} {args : Array Value} {below : List Frame} {meth : Method} {c : Code} {Q : State → Prop}
variable {D : va_G} {cK : Nat → ClassId} {ba b n0 nL : Nat} {H0 : Heap} {cc : ByteArray} {own : String}
theorem sh_pair {o j : Nat} (h : (hp_sh o).1 = j) : hp_sh o = (j, (hp_sh o).2) := by rw [← h]
theorem hp_atI {G : hp_G} {o : Nat} (h1 : o < G.2.2.2) (h2 : (hp_sh o).1 = 1) : (hp_w cK ba G)[o]? = some (ba + o, .inl (cK 0, (hp_sh o).2, .inl (G.1 o))) := by rw [hp_wAt cK ba h1, hp_eI (sh_pair h2)]
theorem hp_atZ {G : hp_G} {o : Nat} (h1 : o < G.2.2.2) (h2 : (hp_sh o).1 = 2) : (hp_w cK ba G)[o]? = some (ba + o, .inl (cK 1, (hp_sh o).2, .inl (G.1 o))) := by rw [hp_wAt cK ba h1, hp_eZ (sh_pair h2)]
theorem hp_atR {G : hp_G} {o j : Nat} (h1 : o < G.2.2.2) (h2 : (hp_sh o).1 = j + 3) : (hp_w cK ba G)[o]? = some (ba + o, .inl (cK (j + 2), (hp_sh o).2, .inr (.inr (.inr (.inr (fun k => (G.2.2.1 o k).map (fun q => ba + q))))))) := by rw [hp_wAt cK ba h1, hp_eR (sh_pair h2)]
theorem g_iald (hx : p.tables.exec = Jvm.exec) (hb : c.code = cc) (hK : va_K D hp_cl (hp_tys cK) s) {sc : Option (Nat × (Nat → Int32))} (hsc : ∀ L xs, sc = some (L, xs) → va_X b L xs s H0 ∧ b < H0.size ∧ b < ba) {S S' : sx_S} (h : o_iald sc S = some (.inr S')) (hd : decode cc S.1 = .ok (.iaload, 1))
    (kk : sx_G p l e R s m args below meth c Q D cK ba b n0 nL H0 S') : sx_G p l e R s m args below meth c Q D cK ba b n0 nL H0 S := by
  obtain ⟨pc, ls, st, G⟩ := S
  simp only [o_iald] at h
  split at h
  · rename_i i o r
    split at h
    · rename_i ho
      cases h
      intro H locs cells slots lsA hH hL
      exact va_iald (t0 := 0) hx hb hK hH.1 o (hp_atI ho.1 ho.2.1) rfl ho.2.2 hd (kk H locs cells slots lsA hH hL)
    · cases h
  · rename_i i z r
    split at h
    · rename_i L xs
      split at h
      · rename_i hi
        cases h
        intro H locs cells slots lsA hH hL
        obtain ⟨h1, h2, h3⟩ := hsc L xs rfl
        exact va_sld (A := fun q => ba ≤ q) hx hb h1 h2 (Nat.not_le.mpr h3) hH.2.1 hi hd (kk H locs cells slots lsA hH hL)
      · cases h
    · cases h
  · cases h
theorem g_alen (hx : p.tables.exec = Jvm.exec) (hb : c.code = cc) {sc : Option (Nat × (Nat → Int32))} (hsc : ∀ L xs, sc = some (L, xs) → va_X b L xs s H0 ∧ b < H0.size ∧ b < ba) {S S' : sx_S} (h : o_alen sc S = some (.inr S')) (hd : decode cc S.1 = .ok (.arraylength, 1))
    (kk : sx_G p l e R s m args below meth c Q D cK ba b n0 nL H0 S') : sx_G p l e R s m args below meth c Q D cK ba b n0 nL H0 S := by
  obtain ⟨pc, ls, st, G⟩ := S
  simp only [o_alen] at h
  split at h
  · rename_i z r
    split at h
    · rename_i L xs
      cases h
      intro H locs cells slots lsA hH hL
      obtain ⟨h1, h2, h3⟩ := hsc L xs rfl
      exact va_slen (A := fun q => ba ≤ q) hx hb h1 h2 (Nat.not_le.mpr h3) hH.2.1 hd (kk H locs cells slots lsA hH hL)
    · cases h
  · cases h
theorem g_zald (hx : p.tables.exec = Jvm.exec) (hb : c.code = cc) (hK : va_K D hp_cl (hp_tys cK) s) {S S' : sx_S} (h : o_zald S = some (.inr S')) (hd : decode cc S.1 = .ok (.baload, 1))
    (kk : sx_G p l e R s m args below meth c Q D cK ba b n0 nL H0 S') : sx_G p l e R s m args below meth c Q D cK ba b n0 nL H0 S := by
  obtain ⟨pc, ls, st, G⟩ := S
  simp only [o_zald] at h
  split at h
  · rename_i i o r
    split at h
    · rename_i ho
      cases h
      intro H locs cells slots lsA hH hL
      exact va_zald (t0 := 1) hx hb hK hH.1 o (hp_atZ ho.1 ho.2.1) rfl ho.2.2 hd (kk H locs cells slots lsA hH hL)
    · cases h
  · cases h
theorem hp_tyR {j : Nat} (hj : j < 2) : (hp_tys cK)[j + 2]? = some (cK (j + 2), .object (if j = 0 then RX0 else RX2)) := by
  match j, hj with
  | 0, _ => rfl
  | 1, _ => rfl
theorem g_aald (hx : p.tables.exec = Jvm.exec) (hb : c.code = cc) (hK : va_K D hp_cl (hp_tys cK) s) {j : Nat} (hj : j < 2) {S S' : sx_S} (h : o_aald j S = some (.inr S')) (hd : decode cc S.1 = .ok (.aaload, 1))
    (kk : sx_G p l e R s m args below meth c Q D cK ba b n0 nL H0 S') : sx_G p l e R s m args below meth c Q D cK ba b n0 nL H0 S := by
  obtain ⟨pc, ls, st, G⟩ := S
  simp only [o_aald] at h
  split at h
  · rename_i i o r
    split at h
    · rename_i ho
      cases hq : G.2.2.1 o i.toNatClampNeg with
      | none => rw [hq] at h; cases h
      | some q =>
        rw [hq] at h
        cases h
        intro H locs cells slots lsA hH hL
        have := kk H locs cells slots lsA hH hL
        refine va_aldq (t0 := j + 2) hx hb hK hH.1 o (hp_atR ho.1 ho.2.1) (hp_tyR hj) ho.2.2 hd ?_
        rw [hq]
        exact this
    · cases h
  · cases h
theorem g_iast (hx : p.tables.exec = Jvm.exec) (hb : c.code = cc) (hK : va_K D hp_cl (hp_tys cK) s) {S S' : sx_S} (h : o_iast S = some (.inr S')) (hd : decode cc S.1 = .ok (.iastore, 1))
    (kk : sx_G p l e R s m args below meth c Q D cK ba b n0 nL H0 S') : sx_G p l e R s m args below meth c Q D cK ba b n0 nL H0 S := by
  obtain ⟨pc, ls, st, G⟩ := S
  simp only [o_iast] at h
  split at h
  · rename_i x i o r
    split at h
    · rename_i ho
      cases h
      intro H locs cells slots lsA hH hL
      refine va_iast (t0 := 0) (A := fun q => ba ≤ q) hx hb hK hH.1 (hp_D cK ba G) hH.2.1 o (hp_atI ho.1 ho.2.1) rfl ho.2.2 hd (fun H1 locs1 a1 _ a3 => ?_)
      rw [hp_set (G := G) (G' := gi G o i.toNatClampNeg x) (o := o) rfl (fun q hq => gi_e hq) (by rw [hp_eI (sh_pair ho.2.1), ← hw_upd]; rfl)] at a1
      exact kk H1 locs1 cells slots lsA (hH.same rfl a1 a3) hL
    · cases h
  · cases h
theorem g_zast (hx : p.tables.exec = Jvm.exec) (hb : c.code = cc) (hK : va_K D hp_cl (hp_tys cK) s) {S S' : sx_S} (h : o_zast S = some (.inr S')) (hd : decode cc S.1 = .ok (.bastore, 1))
    (kk : sx_G p l e R s m args below meth c Q D cK ba b n0 nL H0 S') : sx_G p l e R s m args below meth c Q D cK ba b n0 nL H0 S := by
  obtain ⟨pc, ls, st, G⟩ := S
  simp only [o_zast] at h
  split at h
  · rename_i x i o r
    split at h
    · rename_i ho
      obtain ⟨ho, hx1⟩ := ho
      cases h
      intro H locs cells slots lsA hH hL
      refine va_zast (t0 := 1) (A := fun q => ba ≤ q) hx hb hK hH.1 (hp_D cK ba G) hH.2.1 o (hp_atZ ho.1 ho.2.1) rfl ho.2.2 hd (fun H1 locs1 a1 _ a3 => ?_)
      have hnar : vp_nar .boolean x = x := by rcases hx1 with rfl | rfl <;> rfl
      rw [hnar, hp_set (G := G) (G' := gi G o i.toNatClampNeg x) (o := o) rfl (fun q hq => gi_e hq) (by rw [hp_eZ (sh_pair ho.2.1), ← hw_upd]; rfl)] at a1
      exact kk H1 locs1 cells slots lsA (hH.same rfl a1 a3) hL
    · cases h
  · cases h
theorem g_aast (hx : p.tables.exec = Jvm.exec) (hb : c.code = cc) (hK : va_K D hp_cl (hp_tys cK) s) {j ci : Nat} (hj : (j = 0 ∧ ci = 0) ∨ (j = 1 ∧ ci = 2)) {S S' : sx_S} (h : o_aast j ci S = some (.inr S')) (hd : decode cc S.1 = .ok (.aastore, 1))
    (kk : sx_G p l e R s m args below meth c Q D cK ba b n0 nL H0 S') : sx_G p l e R s m args below meth c Q D cK ba b n0 nL H0 S := by
  obtain ⟨pc, ls, st, G⟩ := S
  simp only [o_aast] at h
  split at h
  · rename_i v i o r
    split at h
    · rename_i ho
      obtain ⟨ho, hv⟩ := ho
      cases h
      intro H locs cells slots lsA hH hL
      have hci : ci < 7 := by omega
      have ht : (hp_tys cK)[j + 2]? = some (cK (j + 2), .object (hp_R ci, hp_T ci, hp_n ci).1) := by
        rcases hj with ⟨rfl, rfl⟩ | ⟨rfl, rfl⟩ <;> rfl
      refine va_astq (A := fun q => ba ≤ q) hx hb hK hH.1 (hp_D cK ba G) hH.2.1 o (j + 2) v ci (hp_atR ho.1 ho.2.1) ht (hp_at hv) (hp_clE hci) ho.2.2 hd (fun H1 locs1 a1 _ a3 => ?_)
      rw [hp_set (G := G) (G' := gr G o i.toNatClampNeg (some v)) (o := o) rfl (fun q hq => gr_e hq) (by
        rw [hp_eR (sh_pair ho.2.1)]
        congr 7
        funext k
        simp only [gr, hw, va_up]
        by_cases hk : k = i.toNatClampNeg <;> simp [hk])] at a1
      exact kk H1 locs1 cells slots lsA (hH.same rfl a1 a3) hL
    · cases h
  · cases h
theorem gy_e {G : hp_G} {q d sp dp n o : Nat} (h : o ≠ d) : hp_e cK ba (gy G q d sp dp n) o = hp_e cK ba G o := hp_eX (hy_ne _ _ _ _ _ h) rfl rfl
theorem g_copy (hx : p.tables.exec = Jvm.exec) (hb : c.code = cc) (hml : c.maxLocals = nL) (hown : s.vm.findClass own = some m.cls) (hK : va_K D hp_cl (hp_tys cK) s) {idx : Nat} (hlk : (Cond.methodLink own idx arraycopyName).before args s = true) (hnat : (Cond.native arraycopyName).before args s = true) (hstat : (Cond.static arraycopyName).before args s = true) (hini : (Cond.initialized "java/lang/System").before args s = true) (hfr : 1 ≤ R.frames) (hlo : 26 ≤ R.locals) {S S' : sx_S} (h : o_copy S = some (.inr S')) (hd : decode cc S.1 = .ok (.invokestatic idx, 3))
    (kk : sx_G p l e R s m args below meth c Q D cK ba b n0 nL H0 S') : sx_G p l e R s m args below meth c Q D cK ba b n0 nL H0 S := by
  obtain ⟨pc, ls, st, G⟩ := S
  simp only [o_copy] at h
  split at h
  · rename_i n dp d sp q r
    split at h
    · rename_i ho
      obtain ⟨hr, ⟨hq, hdd⟩, ⟨hs1, hs2⟩, ⟨h1, h2, h3⟩, h4, h5⟩ := ho
      cases h
      intro H locs cells slots lsA hH hL
      have hc8 := sx_cat8 hr ba b
      have hw7 : nativeFrameWords "java/lang/System" "arraycopy" 5 = 7 := by decide
      refine va_copyi (A := fun q => ba ≤ q) (rest := r.map (cv ba b)) hx hb (by rw [hml, hL.1.1]) hown hlk hnat hstat hini hK hH.1 (hp_D cK ba G) hH.2.1 q d 0 0 (hp_atI hq hs1) (hp_atI hdd hs2) rfl rfl rfl h1 h2 h3 h4 h5 (fun i hi => rfl) hfr (by omega) hd (fun H1 locs1 a1 a2 a3 => ?_)
      rw [hp_set (G := G) (G' := gy G q d sp.toNatClampNeg dp.toNatClampNeg n.toNatClampNeg) (o := d) rfl (fun o ho => gy_e ho) (by rw [hp_eI (sh_pair hs2), ← hy_at]; rfl)] at a1
      exact kk H1 locs1 cells slots lsA (hH.same rfl a1 a3) hL
    · cases h
  · cases h
end SXC
