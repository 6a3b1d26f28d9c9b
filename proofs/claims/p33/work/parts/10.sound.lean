/-! THE CHECK of a table against the machine's tables, and the soundness of a run -/
def lw_in (w : Cond) : Bool := decide (w ∈ lw_tbl) && goodWord w
def wn (own : String) (idx : Nat) (y : MethodName) : Bool := decide (Cond.methodLinkNest own idx y "DaisyChain" ∈ wn_l)
/-- a word among a method's own -/
def wi (ws : List Cond) (w : Cond) : Bool := decide (w ∈ ws)
def ck_d (cc : ByteArray) (pc n : Nat) (i : Instr) : Bool := decide (decode cc pc = .ok (i, n))
def ck_cw (ws : List Cond) (own : String) (idx fr lo : Nat) (d : sx_M) (n : Nat) : Bool :=
  wi ws (.initialized d.1.cls) && decide (d.1.cls ≠ "java/lang/invoke/MethodHandle") && decide (d.1.cls ≠ "java/lang/invoke/VarHandle") && decide ((parseMethodDescriptor d.1.desc).map (fun d => d.parameters.length) = some n) && decide (d.2.2.2.2.1 + 1 ≤ fr) && decide (8 + (d.2.2.1 + 11) + d.2.2.2.2.2.1 ≤ lo)
def ck_S (ws : List Cond) (own : String) (idx fr lo : Nat) (d : sx_M) : Bool := ck_cw ws own idx fr lo d d.2.2.2.2.2.2 && wi ws (.static d.1) && (wi ws (.methodLink own idx d.1) || wn own idx d.1)
def ck_V (ws : List Cond) (own : String) (idx fr lo ci : Nat) (d : sx_M) : Bool := ck_cw ws own idx fr lo d (d.2.2.2.2.2.2 - 1) && decide (0 < d.2.2.2.2.2.2) && decide (ci < 7) && wi ws (.instanceMethod d.1) && wi ws (.selects (hp_R ci) d.1 d.1) && wi ws (.methodLink own idx d.1)
def ck_I (ws : List Cond) (own : String) (idx fr lo : Nat) (d : sx_M) : Bool := ck_cw ws own idx fr lo d (d.2.2.2.2.2.2 - 1) && decide (0 < d.2.2.2.2.2.2) && decide (d.2.2.2.1 = none) && decide (d.1.name = "<init>") && wi ws (.instanceMethod d.1) && (wi ws (.methodLink own idx d.1) || wn own idx d.1)
def ck_v (l : List (Int32 × Nat)) (x : Int32) : Bool := match l with
  | (v, _) :: _ => decide (x = v)
  | [] => true
theorem ck_vP {l : List (Int32 × Nat)} {x : Int32} (h : ck_v l x = true) : ∀ v w r, l = (v, w) :: r → x = v := by
  intro v w r hl
  subst hl
  exact of_decide_eq_true h
def ck_m (ms : List sx_M) (a : Nat) (k : sx_M → Bool) : Bool := match ms[a]? with
  | some d => k d
  | none => false
def sx_ck (ws : List Cond) (own : String) (ini : Bool) (nL fr lo : Nat) (ms : List sx_M) (kc : Nat → Int32) (kl : Nat → Int64) (cc : ByteArray) (pc : Nat) (e : sx_E) : Bool := match e.1 with
  | .iconst z => ck_d cc pc 1 e.1 && ck_v e.2.2.2 (Int32.ofInt z)
  | .bipush z => ck_d cc pc 2 e.1 && ck_v e.2.2.2 (Int8.ofInt z).toInt32
  | .sipush z => ck_d cc pc 3 e.1 && ck_v e.2.2.2 (Int16.ofInt z).toInt32
  | .ldc i => ck_d cc pc 2 e.1 && wi ws (.constant own i (kc i))
  | .ldc_w i => ck_d cc pc 3 e.1 && wi ws (.constant own i (kc i))
  | .ldc2_w i => ck_d cc pc 3 e.1 && wi ws (.constantLong own i (kl i))
  | .lconst _ => ck_d cc pc 1 e.1
  | .iload _ => ck_d cc pc 2 e.1
  | .iload_n _ => ck_d cc pc 1 e.1
  | .aload _ => ck_d cc pc 2 e.1
  | .aload_n _ => ck_d cc pc 1 e.1
  | .istore i => ck_d cc pc 2 e.1 && decide (i < nL)
  | .istore_n i => ck_d cc pc 1 e.1 && decide (i.val < nL)
  | .astore i => ck_d cc pc 2 e.1 && decide (i < nL)
  | .astore_n i => ck_d cc pc 1 e.1 && decide (i.val < nL)
  | .iinc i z => ck_d cc pc 3 e.1 && decide (i < nL) && ck_v e.2.2.2 (Int32.ofInt z)
  | .iadd => ck_d cc pc 1 e.1
  | .isub => ck_d cc pc 1 e.1
  | .imul => ck_d cc pc 1 e.1
  | .iand => ck_d cc pc 1 e.1
  | .ior => ck_d cc pc 1 e.1
  | .ixor => ck_d cc pc 1 e.1
  | .ishl => ck_d cc pc 1 e.1
  | .ishr => ck_d cc pc 1 e.1
  | .iushr => ck_d cc pc 1 e.1
  | .idiv => ck_d cc pc 1 e.1
  | .irem => ck_d cc pc 1 e.1
  | .ladd => ck_d cc pc 1 e.1
  | .lcmp => ck_d cc pc 1 e.1
  | .dup => ck_d cc pc 1 e.1
  | .dup2 => ck_d cc pc 1 e.1
  | .pop => ck_d cc pc 1 e.1
  | .pop2 => ck_d cc pc 1 e.1
  | .getfield idx => ck_d cc pc 3 e.1 && decide (e.2.1 < 7) && decide (e.2.2.1 < hp_n e.2.1) && wi ws (.fieldLink own idx (hp_T e.2.1 e.2.2.1).1 (hp_T e.2.1 e.2.2.1).2.1 (hp_T e.2.1 e.2.2.1).2.2.1)
  | .putfield idx => ck_d cc pc 3 e.1 && decide (e.2.1 < 7) && decide (e.2.2.1 < hp_n e.2.1) && wi ws (.fieldLink own idx (hp_T e.2.1 e.2.2.1).1 (hp_T e.2.1 e.2.2.1).2.1 (hp_T e.2.1 e.2.2.1).2.2.1) && (!(hp_T e.2.1 e.2.2.1).2.2.2 || (ini && decide ((hp_T e.2.1 e.2.2.1).1 = own)))
  | .iaload => ck_d cc pc 1 e.1
  | .baload => ck_d cc pc 1 e.1
  | .aaload => ck_d cc pc 1 e.1 && decide (e.2.1 < 2)
  | .iastore => ck_d cc pc 1 e.1
  | .bastore => ck_d cc pc 1 e.1
  | .aastore => ck_d cc pc 1 e.1 && decide ((e.2.1 = 0 ∧ e.2.2.1 = 0) ∨ (e.2.1 = 1 ∧ e.2.2.1 = 2))
  | .arraylength => ck_d cc pc 1 e.1
  | .new idx => ck_d cc pc 3 e.1 && decide (e.2.1 < 7) && wi ws (.classLink own idx (hp_R e.2.1)) && wi ws (.instantiable (hp_R e.2.1) (hp_n e.2.1)) && wi ws (.initialized (hp_R e.2.1))
  | .newarray t => ck_d cc pc 2 e.1 && decide ((e.2.1 = 1 ∧ t = .int) ∨ (e.2.1 = 2 ∧ t = .boolean)) && wi ws (.arrayClass (newarray.typeOf t))
  | .anewarray idx => ck_d cc pc 3 e.1 && decide (e.2.1 = 3 ∨ e.2.1 = 4) && wi ws (.classLink own idx (if e.2.1 = 3 then RX0 else RX2))
  | .ifCond _ off => ck_d cc pc 3 e.1 && decide ((pc : Int) + off = (e.2.1 : Int))
  | .if_icmp _ off => ck_d cc pc 3 e.1 && decide ((pc : Int) + off = (e.2.1 : Int))
  | .goto off => ck_d cc pc 3 e.1 && decide ((pc : Int) + off = (e.2.2.1 : Int))
  | .tableswitch d lo' hi' offs => (match decode cc pc with
      | .ok (i, _) => decide (i = e.1)
      | _ => false) && sw_T pc d lo' hi' offs e.2.2.1 e.2.2.2
  | .lookupswitch d ps => (match decode cc pc with
      | .ok (i, _) => decide (i = e.1)
      | _ => false) && sw_L pc d ps e.2.2.1 e.2.2.2
  | .ireturn => ck_d cc pc 1 e.1
  | .lreturn => ck_d cc pc 1 e.1
  | .return_ => ck_d cc pc 1 e.1
  | .invokevirtual idx => ck_d cc pc 3 e.1 && ck_m ms e.2.1 (ck_V ws own idx fr lo e.2.2.1)
  | .invokestatic idx => ck_d cc pc 3 e.1 && (match e.2.2.1 with
      | 0 => ck_m ms e.2.1 (ck_S ws own idx fr lo)
      | 1 => wi ws (.methodLink own idx Lib.Math.max.name) && wi ws (.static Lib.Math.max.name) && wi ws (.initialized "java/lang/Math") && wi ws (.code Lib.Math.max.name Lib.Math.max.code 2 (some .int)) && decide (1 ≤ fr) && decide (21 ≤ lo)
      | 2 => wi ws (.methodLink own idx Lib.Math.min.name) && wi ws (.static Lib.Math.min.name) && wi ws (.initialized "java/lang/Math") && wi ws (.code Lib.Math.min.name Lib.Math.min.code 2 (some .int)) && decide (1 ≤ fr) && decide (21 ≤ lo)
      | 3 => wi ws (.methodLink own idx arraycopyName) && wi ws (.native arraycopyName) && wi ws (.static arraycopyName) && wi ws (.initialized "java/lang/System") && decide (1 ≤ fr) && decide (26 ≤ lo)
      | _ => false)
  | .invokespecial idx => ck_d cc pc 3 e.1 && (match e.2.2.1 with
      | 0 => ck_m ms e.2.1 (ck_I ws own idx fr lo)
      | _ => wi ws (.methodLink own idx Lib.objectInit) && wi ws (.instanceMethod Lib.objectInit) && wi ws (.code Lib.objectInit ⟨#[0xb1]⟩ 1 none) && decide (1 ≤ fr) && decide (20 ≤ lo))
  | _ => false
theorem wi_B {ws : List Cond} (hw : sx_ws ws) {w : Cond} {s : State} (hT : sx_T s) (h : wi ws w = true) (A : Array Value) : w.before A s = true := by
  have h := of_decide_eq_true h
  exact hT.1 w (hw w h).1 (hw w h).2 A
theorem ck_dD {cc : ByteArray} {pc n : Nat} {i : Instr} (h : ck_d cc pc n i = true) : decode cc pc = .ok (i, n) := of_decide_eq_true h
theorem ck_cwP {ws : List Cond} (hw : sx_ws ws) {own : String} {idx n : Nat} {R : Room} {s : State} {args : Array Value} {d : sx_M} {f : sx_F} (hok : sx_ok d f) (hT : sx_T s) (h : ck_cw ws own idx R.frames R.locals d n = true) : sx_cw R s args own idx d n := by
  simp only [ck_cw, Bool.and_eq_true, decide_eq_true_eq] at h
  obtain ⟨⟨⟨⟨⟨h2, h3⟩, h4⟩, h5⟩, h6⟩, h7⟩ := h
  exact ⟨hok.1, wi_B hw hT h2 args, ⟨h3, h4⟩, h5, h6, h7⟩
theorem lw_nestB {own : String} {idx : Nat} {y : MethodName} {s : State} (hT : sx_T s) (h : wn own idx y = true) : va_Nw (.methodLinkNest own idx y "DaisyChain") s := hT.2.1 _ _ _ _ (wn_sub _ (of_decide_eq_true h))
section SXF
variable {p : Program} {l : Launch} {e : Env} {R : Room} {s : State} {m : MethodId} {args : Array Value} {below : List Frame} {meth : Method} {c : Code} {Q : State → Prop}
variable {D : va_G} {cK : Nat → ClassId} {ba b n0 nL nE : Nat} {cc : ByteArray} {own : String}
set_option maxHeartbeats 4000000 in
theorem sx_step {ws : List Cond} (hw : sx_ws ws) (hx : p.tables.exec = Jvm.exec) (hb : c.code = cc) (hml : c.maxLocals = nL) (hown : s.vm.findClass own = some m.cls) (hT : sx_T s) (hK : va_K D hp_cl (hp_tys cK) s) (hs0 : s.heap.size = ba + n0) (hrm : sx_rm R n0 nE) {P : sx_P} (hsc : ∀ L xs, P.2.2.1 = some (L, xs) → va_X b L xs s s.heap ∧ b < s.heap.size ∧ b < ba) (hcs : ∀ q ∈ P.2.1, sx_ok q.1 q.2) {ini : Bool} (hini : ini = true → meth.name = "<init>") {en : sx_E} {S S' : sx_S} (hk : sx_ck ws own ini nL R.frames R.locals (P.2.1.map Prod.fst) P.2.2.2.1 P.2.2.2.2.1 cc S.1 en = true) (h : sx_do P.1 P.2.1 P.2.2.1 P.2.2.2.1 P.2.2.2.2.1 en S = some (.inr S')) (hE : S'.2.2.2.2.2.2 ≤ nE)
    (kk : sx_G p l e R s m args below meth c Q D cK ba b n0 nL s.heap S') : sx_G p l e R s m args below meth c Q D cK ba b n0 nL s.heap S := by
  have hms : ∀ {a : Nat} {k : sx_M → Bool} {k2 : sx_M × sx_F → sx_S → sx_O}, ck_m (P.2.1.map Prod.fst) a k = true → o_inv P.2.1 a k2 S = some (.inr S') → ∃ d f, sx_ok d f ∧ k d = true ∧ k2 (d, f) S = some (.inr S') := by
    intro a k k2 h1 h2
    simp only [ck_m, List.getElem?_map] at h1
    simp only [o_inv] at h2
    cases hq : P.2.1[a]? with
    | none => rw [hq] at h1; cases h1
    | some q =>
      rw [hq] at h1 h2
      obtain ⟨d, f⟩ := q
      exact ⟨d, f, hcs (d, f) (List.mem_of_getElem? hq), h1, h2⟩
  obtain ⟨i, ea, eb, sw⟩ := en
  cases i with
  | iconst z =>
    simp only [sx_ck, Bool.and_eq_true] at hk
    exact g_ci h (fun _ _ _ _ _ _ _ _ _ hl w => lv_iconst hx hb (ck_dD hk.1) (ck_vP hk.2 _ _ _ hl) w) kk
  | bipush z =>
    simp only [sx_ck, Bool.and_eq_true] at hk
    exact g_ci h (fun _ _ _ _ _ _ _ _ _ hl w => lv_bipush hx hb (ck_dD hk.1) (ck_vP hk.2 _ _ _ hl) w) kk
  | sipush z =>
    simp only [sx_ck, Bool.and_eq_true] at hk
    exact g_ci h (fun _ _ _ _ _ _ _ _ _ hl w => lv_sipush hx hb (ck_dD hk.1) (ck_vP hk.2 _ _ _ hl) w) kk
  | ldc i =>
    simp only [sx_ck, Bool.and_eq_true] at hk
    exact g_co h (fun w => lv_ldc hx hb hown (wi_B hw hT hk.2 args) (ck_dD hk.1) w) kk
  | ldc_w i =>
    simp only [sx_ck, Bool.and_eq_true] at hk
    exact g_co h (fun w => lv_ldcw hx hb hown (wi_B hw hT hk.2 args) (ck_dD hk.1) w) kk
  | ldc2_w i =>
    simp only [sx_ck, Bool.and_eq_true] at hk
    exact g_co h (fun w => lv_ldc2 hx hb hown (wi_B hw hT hk.2 args) (ck_dD hk.1) w) kk
  | lconst n => exact g_co h (fun w => lv_lconst hx hb (ck_dD hk) rfl w) kk
  | iload i => exact g_ldi h (fun hl w => lv_iload hx hb (ck_dD hk) hl w) kk
  | iload_n i => exact g_ldi h (fun hl w => lv_iload_n hx hb (ck_dD hk) rfl hl w) kk
  | aload i => exact g_lda h (fun hl w => lv_aload hx hb (ck_dD hk) hl w) kk
  | aload_n i => exact g_lda h (fun hl w => lv_aload_n hx hb (ck_dD hk) rfl hl w) kk
  | istore i =>
    simp only [sx_ck, Bool.and_eq_true, decide_eq_true_eq] at hk
    exact g_sti h (fun hl w => lv_istore hx hb (ck_dD hk.1) hl hk.2 rfl w) kk
  | istore_n i =>
    simp only [sx_ck, Bool.and_eq_true, decide_eq_true_eq] at hk
    exact g_sti h (fun hl w => lv_istore_n hx hb (ck_dD hk.1) rfl hl hk.2 rfl w) kk
  | astore i =>
    simp only [sx_ck, Bool.and_eq_true, decide_eq_true_eq] at hk
    exact g_sta h (fun hl w => lv_astore hx hb (ck_dD hk.1) hl hk.2 rfl w) kk
  | astore_n i =>
    simp only [sx_ck, Bool.and_eq_true, decide_eq_true_eq] at hk
    exact g_sta h (fun hl w => lv_astore_n hx hb (ck_dD hk.1) rfl hl hk.2 rfl w) kk
  | iinc i z =>
    simp only [sx_ck, Bool.and_eq_true, decide_eq_true_eq] at hk
    exact g_inc hx hb h (ck_vP hk.2) hk.1.2 (ck_dD hk.1.1) kk
  | iadd => exact g_bi h (fun w => lv_iadd hx hb (ck_dD hk) w) kk
  | isub => exact g_bi h (fun w => lv_isub hx hb (ck_dD hk) w) kk
  | imul => exact g_bi h (fun w => lv_imul hx hb (ck_dD hk) w) kk
  | iand => exact g_bi h (fun w => lv_iand hx hb (ck_dD hk) w) kk
  | ior => exact g_bi h (fun w => lv_ior hx hb (ck_dD hk) w) kk
  | ixor => exact g_bi h (fun w => lv_ixor hx hb (ck_dD hk) w) kk
  | ishl => exact g_bi h (fun w => lv_ishl hx hb (ck_dD hk) w) kk
  | ishr => exact g_bi h (fun w => lv_ishr hx hb (ck_dD hk) w) kk
  | iushr => exact g_bi h (fun w => lv_iushr hx hb (ck_dD hk) rfl w) kk
  | idiv => exact g_dv h (fun hy w => lv_idiv hx hb (ck_dD hk) hy w) kk
  | irem => exact g_dv h (fun hy w => lv_irem hx hb (ck_dD hk) hy w) kk
  | ladd => exact g_ladd hx hb h (ck_dD hk) kk
  | lcmp => exact g_lcmp hx hb h (ck_dD hk) kk
  | dup => exact g_dup hx hb h (ck_dD hk) kk
  | dup2 => exact g_dup2 hx hb h (ck_dD hk) kk
  | pop => exact g_pop hx hb h (ck_dD hk) kk
  | pop2 => exact g_pop2 hx hb h (ck_dD hk) kk
  | getfield idx =>
    simp only [sx_ck, Bool.and_eq_true, decide_eq_true_eq] at hk
    exact g_get hx hb hown hT hK hk.1.1.2 hk.1.2 (wi_B hw hT hk.2 args) h (ck_dD hk.1.1.1) kk
  | putfield idx =>
    simp only [sx_ck, Bool.and_eq_true, Bool.or_eq_true, Bool.not_eq_true', decide_eq_true_eq] at hk
    refine g_put hx hb hown hT hK hk.1.1.1.2 hk.1.1.2 (wi_B hw hT hk.1.2 args) ?_ h (ck_dD hk.1.1.1.1) kk
    rcases hk.2 with q | q
    · exact Or.inl q
    · cases hf : (hp_T ea eb).2.2.2 with
      | false => exact Or.inl rfl
      | true => exact Or.inr ⟨rfl, hini q.1, q.2⟩
  | iaload => exact g_iald hx hb hK hsc h (ck_dD hk) kk
  | baload => exact g_zald hx hb hK h (ck_dD hk) kk
  | aaload =>
    simp only [sx_ck, Bool.and_eq_true, decide_eq_true_eq] at hk
    exact g_aald hx hb hK hk.2 h (ck_dD hk.1) kk
  | iastore => exact g_iast hx hb hK h (ck_dD hk) kk
  | bastore => exact g_zast hx hb hK h (ck_dD hk) kk
  | aastore =>
    simp only [sx_ck, Bool.and_eq_true, decide_eq_true_eq] at hk
    exact g_aast hx hb hK hk.2 h (ck_dD hk.1) kk
  | arraylength => exact g_alen hx hb hsc h (ck_dD hk) kk
  | new idx =>
    simp only [sx_ck, Bool.and_eq_true, decide_eq_true_eq] at hk
    exact g_new hx hb hown hT hK hs0 hrm hk.1.1.1.2 (wi_B hw hT hk.1.1.2 args) (wi_B hw hT hk.1.2 args) (wi_B hw hT hk.2 args) h hE (ck_dD hk.1.1.1.1) kk
  | newarray t =>
    simp only [sx_ck, Bool.and_eq_true, decide_eq_true_eq] at hk
    exact g_newa hx hb hK hs0 hrm hk.1.2 (wi_B hw hT hk.2 args) h hE (ck_dD hk.1.1) kk
  | anewarray idx =>
    simp only [sx_ck, Bool.and_eq_true, decide_eq_true_eq] at hk
    exact g_newq hx hb hown hT hK hs0 hrm hk.1.2 (wi_B hw hT hk.2 args) h hE (ck_dD hk.1.1) kk
  | ifCond cd off =>
    simp only [sx_ck, Bool.and_eq_true, decide_eq_true_eq] at hk
    exact g_if hx hb h (ck_dD hk.1) hk.2 kk
  | if_icmp cd off =>
    simp only [sx_ck, Bool.and_eq_true, decide_eq_true_eq] at hk
    exact g_icmp hx hb h (ck_dD hk.1) hk.2 kk
  | goto off =>
    simp only [sx_ck, Bool.and_eq_true, decide_eq_true_eq] at hk
    exact g_goto hx hb h (ck_dD hk.1) hk.2 kk
  | tableswitch d lo' hi' offs =>
    simp only [sx_ck, Bool.and_eq_true] at hk
    cases hd : decode cc S.1 with
    | error z => rw [hd] at hk; cases hk.1
    | ok q =>
      rw [hd] at hk
      obtain ⟨i, len⟩ := q
      have := of_decide_eq_true hk.1
      subst this
      exact g_swT hx hb h hd hk.2 kk
  | lookupswitch d ps =>
    simp only [sx_ck, Bool.and_eq_true] at hk
    cases hd : decode cc S.1 with
    | error z => rw [hd] at hk; cases hk.1
    | ok q =>
      rw [hd] at hk
      obtain ⟨i, len⟩ := q
      have := of_decide_eq_true hk.1
      subst this
      exact g_swL hx hb h hd hk.2 kk
  | ireturn => exact absurd h (fun h => iret_no h)
  | lreturn => exact absurd h (fun h => lret_no h)
  | return_ => exact absurd h (fun h => vret_no h)
  | invokevirtual idx =>
    simp only [sx_ck, Bool.and_eq_true] at hk
    obtain ⟨d, f, h1, h2, h3⟩ := hms hk.2 h
    simp only [ck_V, Bool.and_eq_true, decide_eq_true_eq] at h2
    obtain ⟨⟨⟨⟨⟨a1, a2⟩, a3⟩, a4⟩, a5⟩, a6⟩ := h2
    exact g_callV hx hb hml hown hT hK hs0 hrm a3 h1 (ck_cwP hw h1 hT a1) (by omega) (wi_B hw hT a4 args) (wi_B hw hT a5 args) (wi_B hw hT a6 args) h3 hE (ck_dD hk.1) kk
  | invokestatic idx =>
    simp only [sx_ck, Bool.and_eq_true] at hk
    obtain ⟨hk1, hk2⟩ := hk
    match eb, hk2, h with
    | 0, hk2, h =>
      obtain ⟨d, f, h1, h2, h3⟩ := hms hk2 h
      simp only [ck_S, Bool.and_eq_true, Bool.or_eq_true] at h2
      obtain ⟨⟨a1, a2⟩, a3⟩ := h2
      refine g_callS hx hb hml hown hT hK hs0 hrm h1 (ck_cwP hw h1 hT a1) (wi_B hw hT a2 args) ?_ h3 hE (ck_dD hk1) kk
      rcases a3 with q | q
      · exact Or.inl (wi_B hw hT q args)
      · exact Or.inr ⟨_, lw_nestB hT q⟩
    | 1, hk2, h =>
      simp only [Bool.and_eq_true, decide_eq_true_eq] at hk2
      obtain ⟨⟨⟨⟨⟨a1, a2⟩, a3⟩, a4⟩, a5⟩, a6⟩ := hk2
      exact g_max hx hb hml hown hrm (wi_B hw hT a1 args) (wi_B hw hT a2 args) (wi_B hw hT a3 args) (wi_B hw hT a4 args) a5 a6 h hE (ck_dD hk1) kk
    | 2, hk2, h =>
      simp only [Bool.and_eq_true, decide_eq_true_eq] at hk2
      obtain ⟨⟨⟨⟨⟨a1, a2⟩, a3⟩, a4⟩, a5⟩, a6⟩ := hk2
      exact g_min hx hb hml hown hrm (wi_B hw hT a1 args) (wi_B hw hT a2 args) (wi_B hw hT a3 args) (wi_B hw hT a4 args) a5 a6 h hE (ck_dD hk1) kk
    | 3, hk2, h =>
      simp only [Bool.and_eq_true, decide_eq_true_eq] at hk2
      obtain ⟨⟨⟨⟨⟨a1, a2⟩, a3⟩, a4⟩, a5⟩, a6⟩ := hk2
      exact g_copy hx hb hml hown hK (wi_B hw hT a1 args) (wi_B hw hT a2 args) (wi_B hw hT a3 args) (wi_B hw hT a4 args) a5 a6 h (ck_dD hk1) kk
    | n + 4, hk2, h => cases hk2
  | invokespecial idx =>
    simp only [sx_ck, Bool.and_eq_true] at hk
    obtain ⟨hk1, hk2⟩ := hk
    match eb, hk2, h with
    | 0, hk2, h =>
      obtain ⟨d, f, h1, h2, h3⟩ := hms hk2 h
      simp only [ck_I, Bool.and_eq_true, Bool.or_eq_true, decide_eq_true_eq] at h2
      obtain ⟨⟨⟨⟨⟨a1, a2⟩, a3⟩, a4⟩, a5⟩, a6⟩ := h2
      refine g_callI hx hb hml hown hT hK hs0 hrm h1 (ck_cwP hw h1 hT a1) a3 (by omega) a4 (wi_B hw hT a5 args) ?_ h3 hE (ck_dD hk1) kk
      rcases a6 with q | q
      · exact Or.inl (wi_B hw hT q args)
      · exact Or.inr ⟨_, lw_nestB hT q⟩
    | n + 1, hk2, h =>
      simp only [Bool.and_eq_true, decide_eq_true_eq] at hk2
      obtain ⟨⟨⟨⟨a1, a2⟩, a3⟩, a4⟩, a5⟩ := hk2
      exact g_obj hx hb hml hown (wi_B hw hT a1 args) (wi_B hw hT a2 args) (wi_B hw hT a3 args) a4 a5 h (ck_dD hk1) kk
  | _ => cases h
end SXF
