/-! new cells, answers, calls -/
section SXD
variable {p : Program} {l : Launch} {e : Env} {R : Room} {s : State} {m : MethodId} {args : Array Value} {below : List Frame} {meth : Method} {c : Code} {Q : State → Prop}
variable {D : va_G} {cK : Nat → ClassId} {ba b n0 nL nE : Nat} {cc : ByteArray} {own : String}
theorem sx_new {G : hp_G} {q : Nat} {z : va_E} {H1 : Heap} {locs : List Loc} {cells slots : Nat} {g : JFrame} (hs0 : s.heap.size = ba + n0) (hP : va_P D hp_cl (hp_w cK ba G ++ [(q, z)]) H1) (hD : va_D (fun q => ba ≤ q) (hp_w cK ba G ++ [(q, z)])) (hc : cells + n0 = G.2.2.2)
    (k : q = ba + G.2.2.2 → W p l e R s m args below meth c H1 locs (cells + 1) slots Q g) : W p l e R s m args below meth c H1 locs (cells + 1) slots Q g := by
  intro T hT X
  have h1 := X.heapSize
  rw [hT, hs0] at h1
  have hlen : (hp_w cK ba G).length = G.2.2.2 := by simp [hp_w]
  have hlast : (hp_w cK ba G ++ [(q, z)])[G.2.2.2]? = some (q, z) := by
    rw [List.getElem?_append_right (by omega), hlen, Nat.sub_self]
    rfl
  have h2 := (hP _ _ hlast).lt
  have h3 : ba ≤ q := hD.2 _ _ hlast
  dsimp only at h2
  refine k ?_ T hT X
  rcases Nat.lt_or_ge q (ba + G.2.2.2) with h | h
  · exfalso
    have hlt : q - ba < G.2.2.2 := by omega
    have h4 : (hp_w cK ba G ++ [(q, z)])[q - ba]? = some (ba + (q - ba), hp_e cK ba G (q - ba)) := by
      rw [List.getElem?_append_left (by omega), hp_wAt cK ba hlt]
    have := hD.1 _ _ _ _ hlast h4 (by dsimp only; omega)
    omega
  · omega
theorem gn_e {G : hp_G} {o : Nat} (h : o ≠ G.2.2.2) : hp_e cK ba (gn G) o = hp_e cK ba G o := hp_eX (hz_ne _ _ h) (hz_ne _ _ h) (hz_ne _ _ h)
theorem hp_dflt {ci : Nat} (hci : ci < 7) (G : hp_G) : ∀ j, j < hp_n ci → defaultValue (hp_ty ci j) = hp_f ba (gn G) ci G.2.2.2 j := by
  intro j hj
  simp only [hp_f, gn, hz_at]
  match ci, hci with
  | 0, _ =>
    have : ∀ j, j < 8 → hp_ty 0 j = .int ∨ hp_ty 0 j = .array .int := by decide +kernel
    rcases this j hj with h | h <;> rw [h] <;> rfl
  | 1, _ =>
    have : ∀ j, j < 3 → hp_ty 1 j = .int ∨ hp_ty 1 j = .array .int := by decide +kernel
    rcases this j hj with h | h <;> rw [h] <;> rfl
  | 2, _ =>
    have : ∀ j, j < 5 → hp_ty 2 j = .int ∨ hp_ty 2 j = .array .int ∨ hp_ty 2 j = .boolean := by decide +kernel
    rcases this j hj with h | h | h <;> rw [h] <;> rfl
  | 3, _ =>
    have : ∀ j, j < 9 → hp_ty 3 j = .int ∨ hp_ty 3 j = .array .int ∨ hp_ty 3 j = .boolean ∨ hp_ty 3 j = .object RX4 := by decide +kernel
    rcases this j hj with h | h | h | h <;> rw [h] <;> rfl
  | 4, _ =>
    have : ∀ j, j < 5 → hp_ty 4 j = .int ∨ hp_ty 4 j = .array .int := by decide +kernel
    rcases this j hj with h | h <;> rw [h] <;> rfl
  | 5, _ =>
    have : ∀ j, j < 12 → hp_ty 5 j = .int ∨ hp_ty 5 j = .array .int ∨ hp_ty 5 j = .array .boolean ∨ hp_ty 5 j = .long ∨ hp_ty 5 j = .object RX3 ∨ hp_ty 5 j = .object RX4 ∨ hp_ty 5 j = .object RX0 ∨ hp_ty 5 j = .object RX1 ∨ hp_ty 5 j = .array (.object RX0) ∨ hp_ty 5 j = .array (.object RX2) := by decide +kernel
    rcases this j hj with h | h | h | h | h | h | h | h | h | h <;> rw [h] <;> rfl
  | 6, _ =>
    have : ∀ j, j < 24 → hp_ty 6 j = .int ∨ hp_ty 6 j = .array .int ∨ hp_ty 6 j = .boolean ∨ hp_ty 6 j = .array .boolean ∨ hp_ty 6 j = .long := by decide +kernel
    rcases this j hj with h | h | h | h | h <;> rw [h] <;> rfl
  | k + 7, h => omega
/-- what the room must hold up to the last cell -/
def sx_rm (R : Room) (n0 nE : Nat) : Prop := nE ≤ n0 + R.cells ∧ hp_tot nE ≤ hp_tot n0 + R.slots
theorem g_new (hx : p.tables.exec = Jvm.exec) (hb : c.code = cc) (hown : s.vm.findClass own = some m.cls) (hT : sx_T s) (hK : va_K D hp_cl (hp_tys cK) s) (hs0 : s.heap.size = ba + n0) (hrm : sx_rm R n0 nE) {ci idx : Nat} (hci : ci < 7) (hcl : (Cond.classLink own idx (hp_R ci)).before args s = true) (hinst : (Cond.instantiable (hp_R ci) (hp_n ci)).before args s = true) (hini : (Cond.initialized (hp_R ci)).before args s = true)
    {S S' : sx_S} (h : o_new ci S = some (.inr S')) (hE : S'.2.2.2.2.2.2 ≤ nE) (hd : decode cc S.1 = .ok (.new idx, 3))
    (kk : sx_G p l e R s m args below meth c Q D cK ba b n0 nL s.heap S') : sx_G p l e R s m args below meth c Q D cK ba b n0 nL s.heap S := by
  obtain ⟨pc, ls, st, G⟩ := S
  simp only [o_new] at h
  split at h
  · rename_i hsh
    cases h
    intro H locs cells slots lsA hH hL
    obtain ⟨hP, hS, z2, z3⟩ := id hH
    have hE : G.2.2.2 + 1 ≤ nE := hE
    have hz : hp_sz G.2.2.2 = hp_n ci := by simp [hp_sz, hsh]
    have ht1 : hp_tot (G.2.2.2 + 1) = hp_tot G.2.2.2 + hp_n ci := by rw [← hz]; rfl
    have ht2 := hp_totLe hE
    have hr1 := hrm.1
    have hr2 := hrm.2
    dsimp only at z2 z3
    refine va_new (Ts := u_ws (hp_R ci) (hp_T ci) (hp_n ci)) (A := fun q => ba ≤ q) (fs := hp_fs ba (gn G) ci G.2.2.2) hx hb (hp_uws hT hci args) (fun w h => h) (hp_ty ci) (hp_tyok hci) hown hcl hinst hini hK hP (hp_D cK ba G) hS (fun q hq => by rw [hs0] at hq; exact Nat.le_trans (Nat.le_add_right _ _) hq) (hp_clE hci) (fun j hj => by rw [hp_dflt (ba := ba) hci G j hj]; simp [vp_V, List.getD, hp_fsAt ba (gn G) ci G.2.2.2 hj]) (by omega) (by omega) hd (fun q H1 a1 a2 a3 => ?_)
    refine sx_new hs0 a1 a2 z2 (fun hq => ?_)
    subst hq
    rw [hp_push (G := G) (G' := gn G) rfl (fun o ho => gn_e ho) (hp_eO hsh)] at a1
    exact kk H1 locs (cells + 1) (slots + hp_n ci) lsA ⟨a1, a3, by show cells + 1 + n0 = G.2.2.2 + 1; omega, by show slots + hp_n ci + hp_tot n0 = hp_tot (G.2.2.2 + 1); omega⟩ hL
  · cases h
theorem g_newa (hx : p.tables.exec = Jvm.exec) (hb : c.code = cc) (hK : va_K D hp_cl (hp_tys cK) s) (hs0 : s.heap.size = ba + n0) (hrm : sx_rm R n0 nE) {j : Nat} {aty : ArrayType} (hj : (j = 1 ∧ aty = .int) ∨ (j = 2 ∧ aty = .boolean)) (harr : (Cond.arrayClass (newarray.typeOf aty)).before args s = true)
    {S S' : sx_S} (h : o_newa j 2 S = some (.inr S')) (hE : S'.2.2.2.2.2.2 ≤ nE) (hd : decode cc S.1 = .ok (.newarray aty, 2))
    (kk : sx_G p l e R s m args below meth c Q D cK ba b n0 nL s.heap S') : sx_G p l e R s m args below meth c Q D cK ba b n0 nL s.heap S := by
  obtain ⟨pc, ls, st, G⟩ := S
  simp only [o_newa] at h
  split at h
  · rename_i x r
    split at h
    · rename_i hg
      obtain ⟨hsh, hx0, hx1⟩ := hg
      cases h
      intro H locs cells slots lsA hH hL
      obtain ⟨hP, hS, z2, z3⟩ := id hH
      have hE : G.2.2.2 + 1 ≤ nE := hE
      have hz : hp_sz G.2.2.2 = x.toNatClampNeg := by rcases hj with ⟨rfl, -⟩ | ⟨rfl, -⟩ <;> simp [hp_sz, hsh]
      have ht1 : hp_tot (G.2.2.2 + 1) = hp_tot G.2.2.2 + x.toNatClampNeg := by rw [← hz]; rfl
      have ht2 := hp_totLe hE
      have hr1 := hrm.1
      have hr2 := hrm.2
      dsimp only at z2 z3
      rcases hj with ⟨rfl, rfl⟩ | ⟨rfl, rfl⟩
      · refine va_newa (A := fun q => ba ≤ q) (a0 := (x.toNatClampNeg, .inl (fun _ => 0))) hx hb harr rfl hK hP (hp_D cK ba G) hS (fun q hq => by rw [hs0] at hq; exact Nat.le_trans (Nat.le_add_right _ _) hq) (fun cA => rfl) hx0 rfl (by show _ * 4 ≤ _; omega) (by omega) (by omega) hd (fun q cA H1 a0 a1 a2 a3 => ?_)
        refine sx_new hs0 a1 a2 z2 (fun hq => ?_)
        subst hq
        have hcA : cA = cK 0 := by
          have f1 : s.vm.findClass ("[" ++ FieldType.int.toString) = some cA := (a0.2 4 (cA, .int) rfl).2
          have f2 : s.vm.findClass ("[" ++ FieldType.int.toString) = some (cK 0) := (hK.2 0 (cK 0, .int) rfl).2
          exact Option.some.inj (f1.symm.trans f2)
        subst hcA
        rw [hp_push (G := G) (G' := gn G) rfl (fun o ho => gn_e ho) (by rw [hp_eI hsh]; simp only [gn, hz_at])] at a1
        exact kk H1 locs (cells + 1) (slots + x.toNatClampNeg) lsA ⟨a1, a3, by show cells + 1 + n0 = G.2.2.2 + 1; omega, by show slots + x.toNatClampNeg + hp_tot n0 = hp_tot (G.2.2.2 + 1); omega⟩ hL
      · refine va_newa (A := fun q => ba ≤ q) (a0 := (x.toNatClampNeg, .inl (fun _ => 0))) hx hb harr rfl hK hP (hp_D cK ba G) hS (fun q hq => by rw [hs0] at hq; exact Nat.le_trans (Nat.le_add_right _ _) hq) (fun cA => rfl) hx0 rfl (by show _ * 1 ≤ _; omega) (by omega) (by omega) hd (fun q cA H1 a0 a1 a2 a3 => ?_)
        refine sx_new hs0 a1 a2 z2 (fun hq => ?_)
        subst hq
        have hcA : cA = cK 1 := by
          have f1 : s.vm.findClass ("[" ++ FieldType.boolean.toString) = some cA := (a0.2 4 (cA, .boolean) rfl).2
          have f2 : s.vm.findClass ("[" ++ FieldType.boolean.toString) = some (cK 1) := (hK.2 1 (cK 1, .boolean) rfl).2
          exact Option.some.inj (f1.symm.trans f2)
        subst hcA
        rw [hp_push (G := G) (G' := gn G) rfl (fun o ho => gn_e ho) (by rw [hp_eZ hsh]; simp only [gn, hz_at])] at a1
        exact kk H1 locs (cells + 1) (slots + x.toNatClampNeg) lsA ⟨a1, a3, by show cells + 1 + n0 = G.2.2.2 + 1; omega, by show slots + x.toNatClampNeg + hp_tot n0 = hp_tot (G.2.2.2 + 1); omega⟩ hL
    · cases h
  · cases h
theorem g_newq (hx : p.tables.exec = Jvm.exec) (hb : c.code = cc) (hown : s.vm.findClass own = some m.cls) (hT : sx_T s) (hK : va_K D hp_cl (hp_tys cK) s) (hs0 : s.heap.size = ba + n0) (hrm : sx_rm R n0 nE) {j idx : Nat} (hj : j = 3 ∨ j = 4) (hcl : (Cond.classLink own idx (if j = 3 then RX0 else RX2)).before args s = true)
    {S S' : sx_S} (h : o_newa j 3 S = some (.inr S')) (hE : S'.2.2.2.2.2.2 ≤ nE) (hd : decode cc S.1 = .ok (.anewarray idx, 3))
    (kk : sx_G p l e R s m args below meth c Q D cK ba b n0 nL s.heap S') : sx_G p l e R s m args below meth c Q D cK ba b n0 nL s.heap S := by
  obtain ⟨pc, ls, st, G⟩ := S
  simp only [o_newa] at h
  split at h
  · rename_i x r
    split at h
    · rename_i hg
      obtain ⟨hsh, hx0, hx1⟩ := hg
      cases h
      intro H locs cells slots lsA hH hL
      obtain ⟨hP, hS, z2, z3⟩ := id hH
      have hE : G.2.2.2 + 1 ≤ nE := hE
      have hz : hp_sz G.2.2.2 = x.toNatClampNeg := by rcases hj with rfl | rfl <;> simp [hp_sz, hsh]
      have ht1 : hp_tot (G.2.2.2 + 1) = hp_tot G.2.2.2 + x.toNatClampNeg := by rw [← hz]; rfl
      have ht2 := hp_totLe hE
      have hr1 := hrm.1
      have hr2 := hrm.2
      dsimp only at z2 z3
      rcases hj with rfl | rfl
      · refine va_newq (C := RX0) (A := fun q => ba ≤ q) hx hb hown hcl hT.2.2.1 hK hP (hp_D cK ba G) hS (fun q hq => by rw [hs0] at hq; exact Nat.le_trans (Nat.le_add_right _ _) hq) hx0 rfl (by omega) (by omega) (by omega) hd (fun q cA H1 a0 a1 a2 a3 => ?_)
        refine sx_new hs0 a1 a2 z2 (fun hq => ?_)
        subst hq
        have hcA : cA = cK 2 := by
          obtain ⟨-, -, -, -, -, f1⟩ := (a0.2 4 (cA, .object RX0) rfl).2
          obtain ⟨-, -, -, -, -, f2⟩ := (hK.2 2 (cK 2, .object RX0) rfl).2
          exact Option.some.inj (f1.symm.trans f2)
        subst hcA
        rw [hp_push (G := G) (G' := gn G) rfl (fun o ho => gn_e ho) (by rw [hp_eR (j := 0) hsh]; simp only [gn, hz_at]; rfl)] at a1
        exact kk H1 locs (cells + 1) (slots + x.toNatClampNeg) lsA ⟨a1, a3, by show cells + 1 + n0 = G.2.2.2 + 1; omega, by show slots + x.toNatClampNeg + hp_tot n0 = hp_tot (G.2.2.2 + 1); omega⟩ hL
      · refine va_newq (C := RX2) (A := fun q => ba ≤ q) hx hb hown hcl hT.2.2.2 hK hP (hp_D cK ba G) hS (fun q hq => by rw [hs0] at hq; exact Nat.le_trans (Nat.le_add_right _ _) hq) hx0 rfl (by omega) (by omega) (by omega) hd (fun q cA H1 a0 a1 a2 a3 => ?_)
        refine sx_new hs0 a1 a2 z2 (fun hq => ?_)
        subst hq
        have hcA : cA = cK 3 := by
          obtain ⟨-, -, -, -, -, f1⟩ := (a0.2 4 (cA, .object RX2) rfl).2
          obtain ⟨-, -, -, -, -, f2⟩ := (hK.2 3 (cK 3, .object RX2) rfl).2
          exact Option.some.inj (f1.symm.trans f2)
        subst hcA
        rw [hp_push (G := G) (G' := gn G) rfl (fun o ho => gn_e ho) (by rw [hp_eR (j := 1) hsh]; simp only [gn, hz_at]; rfl)] at a1
        exact kk H1 locs (cells + 1) (slots + x.toNatClampNeg) lsA ⟨a1, a3, by show cells + 1 + n0 = G.2.2.2 + 1; omega, by show slots + x.toNatClampNeg + hp_tot n0 = hp_tot (G.2.2.2 + 1); omega⟩ hL
    · cases h
  · cases h
end SXD
