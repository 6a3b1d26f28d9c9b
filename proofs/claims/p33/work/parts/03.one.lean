/-! ONE STEP OF A METHOD, over the heap as numbers: a table of its instructions (with what the pool says), its callees as functions -/
abbrev sx_S : Type := Nat × List (Nat × Value) × List Value × hp_G
abbrev sx_R : Type := Option Value × hp_G
abbrev sx_O : Type := Option (sx_R ⊕ sx_S)
abbrev sx_F : Type := List Value → hp_G → Option sx_R
/-- name, bytes, locals, answer, frames below, locals' words below, how many arguments with 'this' -/
abbrev sx_M : Type := MethodName × ByteArray × Nat × Option FieldType × Nat × Nat × Nat
abbrev sx_E : Type := Instr × Nat × Nat × List (Int32 × Nat)
abbrev sx_in (i : Int32) (n : Nat) : Prop := ¬ (i < 0 ∨ n ≤ i.toNatClampNeg)
abbrev sx_01 (x : Int32) : Prop := x = 0 ∨ x = 1
abbrev sx_is (G : hp_G) (o : Nat) (w : Nat × Nat) : Prop := o < G.2.2.2 ∧ hp_sh o = w
abbrev sx_ar (G : hp_G) (o : Nat) (j : Nat) (i : Int32) : Prop := o < G.2.2.2 ∧ (hp_sh o).1 = j ∧ sx_in i (hp_sh o).2
def gi (G : hp_G) (o k : Nat) (x : Int32) : hp_G := (hw G.1 o k x, G.2)
def gl (G : hp_G) (o k : Nat) (x : Int64) : hp_G := (G.1, hw G.2.1 o k x, G.2.2)
def gr (G : hp_G) (o k : Nat) (x : Option Nat) : hp_G := (G.1, G.2.1, hw G.2.2.1 o k x, G.2.2.2)
def gy (G : hp_G) (s d sp dp n : Nat) : hp_G := (hy G.1 s d sp dp n, G.2)
def gn (G : hp_G) : hp_G := (hz G.1 G.2.2.2 0, hz G.2.1 G.2.2.2 0, hz G.2.2.1 G.2.2.2 none, G.2.2.2 + 1)
def lk : List (Nat × Value) → Nat → Option Value
  | [], _ => none
  | (j, v) :: r, i => bif Nat.beq j i then some v else lk r i
def dl (i : Nat) : List (Nat × Value) → List (Nat × Value)
  | [] => []
  | (j, v) :: r => bif Nat.beq j i then dl i r else (j, v) :: dl i r
def sl : List (Nat × Value) → Nat → Value → List (Nat × Value)
  | [], i, x => [(i, x)]
  | (j, v) :: r, i, x => bif Nat.beq j i then (i, x) :: dl i r else (j, v) :: sl r i x
def kp (n : Nat) : List (Nat × Value) → List (Nat × Value)
  | [] => []
  | (j, v) :: r => bif Nat.blt j n then (j, v) :: kp n r else kp n r
def tk : Nat → List Value → List Value → Option (List Value × List Value)
  | 0, st, as => some (as, st)
  | n + 1, v :: st, as => tk n st (v :: as)
  | _ + 1, [], _ => none
def o_co (v : Value) (n : Nat) : sx_S → sx_O := fun s => some (.inr (s.1 + n, s.2.1, v :: s.2.2.1, s.2.2.2))
def o_ci (l : List (Int32 × Nat)) (n : Nat) : sx_S → sx_O := match l with
  | (v, _) :: _ => o_co (.int v) n
  | [] => fun _ => none
def o_bi (k : Int32 → Int32 → Int32) : sx_S → sx_O := fun s => match s.2.2.1 with
  | .int y :: .int x :: r => some (.inr (s.1 + 1, s.2.1, .int (k x y) :: r, s.2.2.2))
  | _ => none
def o_dv (k : Int32 → Int32 → Int32) : sx_S → sx_O := fun s => match s.2.2.1 with
  | .int y :: .int x :: r => if y = 0 then none else some (.inr (s.1 + 1, s.2.1, .int (k x y) :: r, s.2.2.2))
  | _ => none
def o_ladd : sx_S → sx_O := fun s => match s.2.2.1 with
  | .long y :: .long x :: r => some (.inr (s.1 + 1, s.2.1, .long (x + y) :: r, s.2.2.2))
  | _ => none
def o_lcmp : sx_S → sx_O := fun s => match s.2.2.1 with
  | .long y :: .long x :: r => some (.inr (s.1 + 1, s.2.1, .int (lg_cmp x y) :: r, s.2.2.2))
  | _ => none
def o_ldi (i n : Nat) : sx_S → sx_O := fun s => match lk s.2.1 i with
  | some (.int x) => some (.inr (s.1 + n, s.2.1, .int x :: s.2.2.1, s.2.2.2))
  | _ => none
def o_lda (i n : Nat) : sx_S → sx_O := fun s => match lk s.2.1 i with
  | some (.ref x) => some (.inr (s.1 + n, s.2.1, .ref x :: s.2.2.1, s.2.2.2))
  | some (.float x) => some (.inr (s.1 + n, s.2.1, .float x :: s.2.2.1, s.2.2.2))
  | _ => none
def o_sti (i n : Nat) : sx_S → sx_O := fun s => match s.2.2.1 with
  | .int x :: r => some (.inr (s.1 + n, sl s.2.1 i (.int x), r, s.2.2.2))
  | _ => none
def o_sta (i n : Nat) : sx_S → sx_O := fun s => match s.2.2.1 with
  | .ref x :: r => some (.inr (s.1 + n, sl s.2.1 i (.ref x), r, s.2.2.2))
  | _ => none
def o_inc1 (i : Nat) (z : Int32) : sx_S → sx_O := fun s => match lk s.2.1 i with
  | some (.int x) => some (.inr (s.1 + 3, sl s.2.1 i (.int (x + z)), s.2.2.1, s.2.2.2))
  | _ => none
def o_inc (i : Nat) (l : List (Int32 × Nat)) : sx_S → sx_O := match l with
  | (v, _) :: _ => o_inc1 i v
  | [] => fun _ => none
def o_dup : sx_S → sx_O := fun s => match s.2.2.1 with
  | .int x :: r => some (.inr (s.1 + 1, s.2.1, .int x :: .int x :: r, s.2.2.2))
  | .ref x :: r => some (.inr (s.1 + 1, s.2.1, .ref x :: .ref x :: r, s.2.2.2))
  | _ => none
def o_dup2 : sx_S → sx_O := fun s => match s.2.2.1 with
  | .int x :: .ref y :: r => some (.inr (s.1 + 1, s.2.1, .int x :: .ref y :: .int x :: .ref y :: r, s.2.2.2))
  | _ => none
def o_pop : sx_S → sx_O := fun s => match s.2.2.1 with
  | .int _ :: r => some (.inr (s.1 + 1, s.2.1, r, s.2.2.2))
  | _ => none
def o_pop2 : sx_S → sx_O := fun s => match s.2.2.1 with
  | .long _ :: r => some (.inr (s.1 + 1, s.2.1, r, s.2.2.2))
  | _ => none
def o_get (ci k : Nat) : sx_S → sx_O := fun s => match s.2.2.1 with
  | .ref o :: r => if sx_is s.2.2.2 o (0, ci) then (match hp_ty ci k with
      | .int => some (.inr (s.1 + 3, s.2.1, .int (s.2.2.2.1 o k) :: r, s.2.2.2))
      | .boolean => some (.inr (s.1 + 3, s.2.1, .int (s.2.2.2.1 o k) :: r, s.2.2.2))
      | .long => some (.inr (s.1 + 3, s.2.1, .long (s.2.2.2.2.1 o k) :: r, s.2.2.2))
      | .object _ => (s.2.2.2.2.2.1 o k).bind (fun q => some (.inr (s.1 + 3, s.2.1, .ref q :: r, s.2.2.2)))
      | .array _ => (s.2.2.2.2.2.1 o k).bind (fun q => some (.inr (s.1 + 3, s.2.1, .ref q :: r, s.2.2.2)))
      | _ => none) else none
  | _ => none
def o_put (ci k : Nat) : sx_S → sx_O := fun s => match s.2.2.1 with
  | .int x :: .ref o :: r => (match hp_ty ci k with
      | .int => if sx_is s.2.2.2 o (0, ci) then some (.inr (s.1 + 3, s.2.1, r, gi s.2.2.2 o k x)) else none
      | .boolean => if sx_is s.2.2.2 o (0, ci) ∧ sx_01 x then some (.inr (s.1 + 3, s.2.1, r, gi s.2.2.2 o k x)) else none
      | _ => none)
  | .long x :: .ref o :: r => (match hp_ty ci k with
      | .long => if sx_is s.2.2.2 o (0, ci) then some (.inr (s.1 + 3, s.2.1, r, gl s.2.2.2 o k x)) else none
      | _ => none)
  | .ref x :: .ref o :: r => (match hp_ty ci k with
      | .object _ => if sx_is s.2.2.2 o (0, ci) then some (.inr (s.1 + 3, s.2.1, r, gr s.2.2.2 o k (some x))) else none
      | .array _ => if sx_is s.2.2.2 o (0, ci) then some (.inr (s.1 + 3, s.2.1, r, gr s.2.2.2 o k (some x))) else none
      | _ => none)
  | _ => none
def o_iald (sc : Option (Nat × (Nat → Int32))) : sx_S → sx_O := fun s => match s.2.2.1 with
  | .int i :: .ref o :: r => if sx_ar s.2.2.2 o 1 i then some (.inr (s.1 + 1, s.2.1, .int (s.2.2.2.1 o i.toNatClampNeg) :: r, s.2.2.2)) else none
  | .int i :: .float _ :: r => (match sc with
      | some (L, xs) => if sx_in i L then some (.inr (s.1 + 1, s.2.1, .int (xs i.toNatClampNeg) :: r, s.2.2.2)) else none
      | none => none)
  | _ => none
def o_alen (sc : Option (Nat × (Nat → Int32))) : sx_S → sx_O := fun s => match s.2.2.1 with
  | .float _ :: r => (match sc with
      | some (L, _) => some (.inr (s.1 + 1, s.2.1, .int (Int32.ofNat L) :: r, s.2.2.2))
      | none => none)
  | _ => none
def o_zald : sx_S → sx_O := fun s => match s.2.2.1 with
  | .int i :: .ref o :: r => if sx_ar s.2.2.2 o 2 i then some (.inr (s.1 + 1, s.2.1, .int (s.2.2.2.1 o i.toNatClampNeg) :: r, s.2.2.2)) else none
  | _ => none
def o_aald (j : Nat) : sx_S → sx_O := fun s => match s.2.2.1 with
  | .int i :: .ref o :: r => if sx_ar s.2.2.2 o (j + 3) i then (s.2.2.2.2.2.1 o i.toNatClampNeg).bind (fun q => some (.inr (s.1 + 1, s.2.1, .ref q :: r, s.2.2.2))) else none
  | _ => none
def o_iast : sx_S → sx_O := fun s => match s.2.2.1 with
  | .int x :: .int i :: .ref o :: r => if sx_ar s.2.2.2 o 1 i then some (.inr (s.1 + 1, s.2.1, r, gi s.2.2.2 o i.toNatClampNeg x)) else none
  | _ => none
def o_zast : sx_S → sx_O := fun s => match s.2.2.1 with
  | .int x :: .int i :: .ref o :: r => if sx_ar s.2.2.2 o 2 i ∧ sx_01 x then some (.inr (s.1 + 1, s.2.1, r, gi s.2.2.2 o i.toNatClampNeg x)) else none
  | _ => none
def o_aast (j ci : Nat) : sx_S → sx_O := fun s => match s.2.2.1 with
  | .ref q :: .int i :: .ref o :: r => if sx_ar s.2.2.2 o (j + 3) i ∧ sx_is s.2.2.2 q (0, ci) then some (.inr (s.1 + 1, s.2.1, r, gr s.2.2.2 o i.toNatClampNeg (some q))) else none
  | _ => none
def o_new (ci : Nat) : sx_S → sx_O := fun s => if hp_sh s.2.2.2.2.2.2 = (0, ci) then some (.inr (s.1 + 3, s.2.1, .ref s.2.2.2.2.2.2 :: s.2.2.1, gn s.2.2.2)) else none
def o_newa (j n : Nat) : sx_S → sx_O := fun s => match s.2.2.1 with
  | .int x :: r => if hp_sh s.2.2.2.2.2.2 = (j, x.toNatClampNeg) ∧ ¬ x < 0 ∧ x.toNatClampNeg ≤ 1000 then some (.inr (s.1 + n, s.2.1, .ref s.2.2.2.2.2.2 :: r, gn s.2.2.2)) else none
  | _ => none
def o_if (c : Jvm.ClassFile.Cond) (t : Nat) : sx_S → sx_O := fun s => match s.2.2.1 with
  | .int x :: r => (match c with
      | .eq => if x = 0 then some (.inr (t, s.2.1, r, s.2.2.2)) else some (.inr (s.1 + 3, s.2.1, r, s.2.2.2))
      | .ne => if x = 0 then some (.inr (s.1 + 3, s.2.1, r, s.2.2.2)) else some (.inr (t, s.2.1, r, s.2.2.2))
      | .lt => if x < 0 then some (.inr (t, s.2.1, r, s.2.2.2)) else some (.inr (s.1 + 3, s.2.1, r, s.2.2.2))
      | .ge => if 0 ≤ x then some (.inr (t, s.2.1, r, s.2.2.2)) else some (.inr (s.1 + 3, s.2.1, r, s.2.2.2))
      | .gt => if 0 < x then some (.inr (t, s.2.1, r, s.2.2.2)) else some (.inr (s.1 + 3, s.2.1, r, s.2.2.2))
      | .le => if x ≤ 0 then some (.inr (t, s.2.1, r, s.2.2.2)) else some (.inr (s.1 + 3, s.2.1, r, s.2.2.2)))
  | _ => none
def o_icmp (c : Jvm.ClassFile.Cond) (t : Nat) : sx_S → sx_O := fun s => match s.2.2.1 with
  | .int y :: .int x :: r => (match c with
      | .eq => if x = y then some (.inr (t, s.2.1, r, s.2.2.2)) else some (.inr (s.1 + 3, s.2.1, r, s.2.2.2))
      | .ne => if x = y then some (.inr (s.1 + 3, s.2.1, r, s.2.2.2)) else some (.inr (t, s.2.1, r, s.2.2.2))
      | .lt => if x < y then some (.inr (t, s.2.1, r, s.2.2.2)) else some (.inr (s.1 + 3, s.2.1, r, s.2.2.2))
      | .ge => if y ≤ x then some (.inr (t, s.2.1, r, s.2.2.2)) else some (.inr (s.1 + 3, s.2.1, r, s.2.2.2))
      | .gt => if y < x then some (.inr (t, s.2.1, r, s.2.2.2)) else some (.inr (s.1 + 3, s.2.1, r, s.2.2.2))
      | .le => if x ≤ y then some (.inr (t, s.2.1, r, s.2.2.2)) else some (.inr (s.1 + 3, s.2.1, r, s.2.2.2)))
  | _ => none
def o_goto (n t : Nat) : sx_S → sx_O := fun s => some (.inr (t, kp n s.2.1, s.2.2.1, s.2.2.2))
def o_swk (s : sx_S) (r : List Value) (d : Nat) (x : Int32) : List (Int32 × Nat) → sx_O
  | [] => some (.inr (d, s.2.1, r, s.2.2.2))
  | (k, t) :: l => if x = k then some (.inr (t, s.2.1, r, s.2.2.2)) else o_swk s r d x l
def o_sw (d : Nat) (l : List (Int32 × Nat)) : sx_S → sx_O := fun s => match s.2.2.1 with
  | .int x :: r => o_swk s r d x l
  | _ => none
def o_iret (rt : Option FieldType) : sx_S → sx_O := fun s => match s.2.2.1 with
  | [.int x] => (match rt with
      | some .int => some (.inl (some (.int x), s.2.2.2))
      | some .boolean => if sx_01 x then some (.inl (some (.int x), s.2.2.2)) else none
      | _ => none)
  | _ => none
def o_lret (rt : Option FieldType) : sx_S → sx_O := fun s => match s.2.2.1 with
  | [.long x] => (match rt with
      | some .long => some (.inl (some (.long x), s.2.2.2))
      | _ => none)
  | _ => none
def o_vret (rt : Option FieldType) : sx_S → sx_O := fun s => match s.2.2.1 with
  | [] => (match rt with
      | none => some (.inl (none, s.2.2.2))
      | _ => none)
  | _ => none
def bI {α : Type} (r : Option sx_R) (k : Int32 → hp_G → Option α) : Option α := match r with
  | some (some (.int x), G') => k x G'
  | _ => none
def bL {α : Type} (r : Option sx_R) (k : Int64 → hp_G → Option α) : Option α := match r with
  | some (some (.long x), G') => k x G'
  | _ => none
def bV {α : Type} (r : Option sx_R) (k : hp_G → Option α) : Option α := match r with
  | some (none, G') => k G'
  | _ => none
/-- behind a call: the answer's kind is the callee's -/
def o_back (s : sx_S) (rest : List Value) (rt : Option FieldType) (r : Option sx_R) : sx_O := match rt with
  | none => bV r (fun G' => some (.inr (s.1 + 3, s.2.1, rest, G')))
  | some .long => bL r (fun x G' => some (.inr (s.1 + 3, s.2.1, .long x :: rest, G')))
  | some _ => bI r (fun x G' => some (.inr (s.1 + 3, s.2.1, .int x :: rest, G')))
def o_call (d : sx_M × sx_F) : sx_S → sx_O := fun s => match tk d.1.2.2.2.2.2.2 s.2.2.1 [] with
  | some (as, rest) => bif Nat.ble rest.length 4 then o_back s rest d.1.2.2.2.1 (d.2 as s.2.2.2) else none
  | none => none
def o_callV (d : sx_M × sx_F) (ci : Nat) : sx_S → sx_O := fun s => match tk d.1.2.2.2.2.2.2 s.2.2.1 [] with
  | some (.ref o :: as, rest) => bif Nat.ble rest.length 4 then (if sx_is s.2.2.2 o (0, ci) then o_back s rest d.1.2.2.2.1 (d.2 (.ref o :: as) s.2.2.2) else none) else none
  | _ => none
def o_callI (d : sx_M × sx_F) : sx_S → sx_O := fun s => match tk d.1.2.2.2.2.2.2 s.2.2.1 [] with
  | some (.ref o :: as, rest) => bif Nat.ble rest.length 4 then o_back s rest d.1.2.2.2.1 (d.2 (.ref o :: as) s.2.2.2) else none
  | _ => none
def o_obj : sx_S → sx_O := fun s => match s.2.2.1 with
  | .ref _ :: r => bif Nat.ble r.length 4 then some (.inr (s.1 + 3, s.2.1, r, s.2.2.2)) else none
  | _ => none
def o_max : sx_S → sx_O := fun s => match s.2.2.1 with
  | .int y :: .int x :: r => bif Nat.ble r.length 4 then some (.inr (s.1 + 3, s.2.1, .int (if x < y then y else x) :: r, s.2.2.2)) else none
  | _ => none
def o_min : sx_S → sx_O := fun s => match s.2.2.1 with
  | .int y :: .int x :: r => bif Nat.ble r.length 4 then some (.inr (s.1 + 3, s.2.1, .int (if y < x then y else x) :: r, s.2.2.2)) else none
  | _ => none
def o_copy : sx_S → sx_O := fun s => match s.2.2.1 with
  | .int n :: .int dp :: .ref d :: .int sp :: .ref q :: r => if Nat.ble r.length 4 = true ∧ (q < s.2.2.2.2.2.2 ∧ d < s.2.2.2.2.2.2) ∧ ((hp_sh q).1 = 1 ∧ (hp_sh d).1 = 1) ∧ (¬ sp < 0 ∧ ¬ dp < 0 ∧ ¬ n < 0) ∧ sp.toNatClampNeg + n.toNatClampNeg ≤ (hp_sh q).2 ∧ dp.toNatClampNeg + n.toNatClampNeg ≤ (hp_sh d).2 then some (.inr (s.1 + 3, s.2.1, r, gy s.2.2.2 q d sp.toNatClampNeg dp.toNatClampNeg n.toNatClampNeg)) else none
  | _ => none
def o_inv (cs : List (sx_M × sx_F)) (a : Nat) (k : sx_M × sx_F → sx_S → sx_O) : sx_S → sx_O := fun s => match cs[a]? with
  | some d => k d s
  | none => none
def o_stat (cs : List (sx_M × sx_F)) (a b : Nat) : sx_S → sx_O := match b with
  | 0 => o_inv cs a o_call
  | 1 => o_max
  | 2 => o_min
  | 3 => o_copy
  | _ => fun _ => none
def o_spec (cs : List (sx_M × sx_F)) (a b : Nat) : sx_S → sx_O := match b with
  | 0 => o_inv cs a o_callI
  | _ => o_obj
/-- what an instruction does -/
def sx_do (rt : Option FieldType) (cs : List (sx_M × sx_F)) (sc : Option (Nat × (Nat → Int32))) (kc : Nat → Int32) (kl : Nat → Int64) (e : sx_E) : sx_S → sx_O := match e.1 with
  | .iconst _ => o_ci e.2.2.2 1
  | .bipush _ => o_ci e.2.2.2 2
  | .sipush _ => o_ci e.2.2.2 3
  | .ldc i => o_co (.int (kc i)) 2
  | .ldc_w i => o_co (.int (kc i)) 3
  | .ldc2_w i => o_co (.long (kl i)) 3
  | .lconst n => o_co (.long (Int64.ofNat n)) 1
  | .iload i => o_ldi i 2
  | .iload_n i => o_ldi i 1
  | .aload i => o_lda i 2
  | .aload_n i => o_lda i 1
  | .istore i => o_sti i 2
  | .istore_n i => o_sti i 1
  | .astore i => o_sta i 2
  | .astore_n i => o_sta i 1
  | .iinc i _ => o_inc i e.2.2.2
  | .iadd => o_bi (fun x y => x + y)
  | .isub => o_bi (fun x y => x - y)
  | .imul => o_bi (fun x y => x * y)
  | .iand => o_bi (fun x y => x &&& y)
  | .ior => o_bi (fun x y => x ||| y)
  | .ixor => o_bi (fun x y => x ^^^ y)
  | .ishl => o_bi (fun x y => x <<< (y &&& 31))
  | .ishr => o_bi (fun x y => x >>> (y &&& 31))
  | .iushr => o_bi (fun x y => (x.toUInt32 >>> (y.toUInt32 &&& Int32.toUInt32 31)).toInt32)
  | .idiv => o_dv (fun x y => x / y)
  | .irem => o_dv (fun x y => x - x / y * y)
  | .ladd => o_ladd
  | .lcmp => o_lcmp
  | .dup => o_dup
  | .dup2 => o_dup2
  | .pop => o_pop
  | .pop2 => o_pop2
  | .getfield _ => o_get e.2.1 e.2.2.1
  | .putfield _ => o_put e.2.1 e.2.2.1
  | .iaload => o_iald sc
  | .baload => o_zald
  | .aaload => o_aald e.2.1
  | .iastore => o_iast
  | .bastore => o_zast
  | .aastore => o_aast e.2.1 e.2.2.1
  | .arraylength => o_alen sc
  | .new _ => o_new e.2.1
  | .newarray _ => o_newa e.2.1 2
  | .anewarray _ => o_newa e.2.1 3
  | .ifCond c _ => o_if c e.2.1
  | .if_icmp c _ => o_icmp c e.2.1
  | .goto _ => o_goto e.2.1 e.2.2.1
  | .tableswitch _ _ _ _ => o_sw e.2.2.1 e.2.2.2
  | .lookupswitch _ _ => o_sw e.2.2.1 e.2.2.2
  | .ireturn => o_iret rt
  | .lreturn => o_lret rt
  | .return_ => o_vret rt
  | .invokevirtual _ => o_inv cs e.2.1 (fun d => o_callV d e.2.2.1)
  | .invokestatic _ => o_stat cs e.2.1 e.2.2.1
  | .invokespecial _ => o_spec cs e.2.1 e.2.2.1
  | _ => fun _ => none
/-- a method's own data: its answer, its callees, the script if it has one, its constants, its table -/
abbrev sx_P : Type := Option FieldType × List (sx_M × sx_F) × Option (Nat × (Nat → Int32)) × (Nat → Int32) × (Nat → Int64) × (Nat → Option sx_E)
def sx_one (P : sx_P) (s : sx_S) : sx_O := match P.2.2.2.2.2 s.1 with
  | some e => sx_do P.1 P.2.1 P.2.2.1 P.2.2.2.1 P.2.2.2.2.1 e s
  | none => none
def sx_run (P : sx_P) : Nat → sx_S → Option sx_R
  | 0, _ => none
  | n + 1, s => match sx_one P s with
    | none => none
    | some (.inl r) => some r
    | some (.inr s') => sx_run P n s'
theorem sx_mono {P : sx_P} : ∀ {n : Nat} {s : sx_S} {r : sx_R}, sx_run P n s = some r → ∀ k, sx_run P (n + k) s = some r
  | 0, _, _, h, _ => by cases h
  | n + 1, s, r, h, k => by
    rw [show n + 1 + k = (n + k) + 1 by omega]
    simp only [sx_run] at h ⊢
    cases ho : sx_one P s with
    | none => rw [ho] at h; cases h
    | some x =>
      rw [ho] at h
      cases x with
      | inl y => exact h
      | inr s' => exact sx_mono (n := n) h k
theorem sx_uniq {P : sx_P} {n k : Nat} {s : sx_S} {r r' : sx_R} (h : sx_run P n s = some r) (h' : sx_run P k s = some r') : r = r' := by
  have a := sx_mono h k
  have b := sx_mono h' n
  rw [Nat.add_comm k n, a] at b
  exact Option.some.inj b
/-- what a method comes to, whatever the number of steps -/
noncomputable def sx_ev (P : sx_P) (s : sx_S) : Option sx_R := Classical.epsilon (fun o => ∀ r, o = some r ↔ ∃ n, sx_run P n s = some r)
theorem sx_evI {P : sx_P} {s : sx_S} (r : sx_R) : sx_ev P s = some r ↔ ∃ n, sx_run P n s = some r := by
  have hex : ∃ o : Option sx_R, ∀ r, o = some r ↔ ∃ n, sx_run P n s = some r := by
    by_cases h : ∃ r, ∃ n, sx_run P n s = some r
    · obtain ⟨r0, n0, h0⟩ := h
      refine ⟨some r0, fun r => ⟨fun e => ⟨n0, by rw [h0]; exact e⟩, fun ⟨n, hn⟩ => by rw [sx_uniq h0 hn]⟩⟩
    · exact ⟨none, fun r => ⟨fun e => (by cases e), fun ⟨n, hn⟩ => absurd ⟨r, n, hn⟩ h⟩⟩
  exact Classical.epsilon_spec hex r
theorem sx_oext {a b : Option sx_R} (h : ∀ r, a = some r ↔ b = some r) : a = b := by
  cases a with
  | some x => exact ((h x).mp rfl).symm
  | none =>
    cases b with
    | none => rfl
    | some y => exact (h y).mpr rfl
theorem sx_fix (P : sx_P) (s : sx_S) : sx_ev P s = match sx_one P s with
    | none => none
    | some (.inl r) => some r
    | some (.inr s') => sx_ev P s' := by
  apply sx_oext
  intro r
  rw [sx_evI]
  cases ho : sx_one P s with
  | none =>
    refine ⟨fun ⟨n, h⟩ => ?_, fun h => by cases h⟩
    cases n with
    | zero => cases h
    | succ n => simp only [sx_run, ho] at h; cases h
  | some x =>
    cases x with
    | inl y =>
      refine ⟨fun ⟨n, h⟩ => ?_, fun h => ⟨1, by simp only [sx_run, ho]; exact h⟩⟩
      cases n with
      | zero => cases h
      | succ n => simp only [sx_run, ho] at h; exact h
    | inr s' =>
      simp only [sx_evI]
      refine ⟨fun ⟨n, h⟩ => ?_, fun ⟨n, h⟩ => ⟨n + 1, by simp only [sx_run, ho]; exact h⟩⟩
      cases n with
      | zero => cases h
      | succ n => simp only [sx_run, ho] at h; exact ⟨n, h⟩
theorem sx_go {P : sx_P} {s s' : sx_S} (h : sx_one P s = some (.inr s')) : sx_ev P s = sx_ev P s' := by rw [sx_fix, h]
theorem sx_end {P : sx_P} {s : sx_S} {r : sx_R} (h : sx_one P s = some (.inl r)) : sx_ev P s = some r := by rw [sx_fix, h]
