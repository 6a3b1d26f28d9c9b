/-! THE ROWS by which a method's code is read as a tree, over the settled heap -/
def xm5 (k : Nat) : Option Nat := bif Nat.beq k 0 then some 1 else bif Nat.beq k 1 then some 7 else bif Nat.beq k 2 then some 11 else bif Nat.beq k 3 then some 16 else bif Nat.beq k 5 then some 17 else bif Nat.beq k 6 then some 18 else bif Nat.beq k 7 then some 19 else bif Nat.beq k 9 then some 20 else bif Nat.beq k 10 then some 23 else none
def xm6 (k : Nat) : Option Nat := bif Nat.beq k 2 then some 100 else bif Nat.beq k 9 then some 101 else bif Nat.beq k 10 then some 102 else bif Nat.beq k 11 then some 103 else bif Nat.beq k 12 then some 104 else bif Nat.beq k 14 then some 105 else bif Nat.beq k 15 then some 106 else bif Nat.beq k 16 then some 107 else bif Nat.beq k 17 then some 108 else bif Nat.beq k 19 then some 109 else bif Nat.beq k 20 then some 110 else bif Nat.beq k 22 then some 111 else bif Nat.beq k 23 then some 112 else none
/-- where the references go, but for the array 'past' (cell 16) -/
def xn (c k : Nat) : Option Nat := match hp_sh c with
  | (0, 0) => bif Nat.ble 3 k && Nat.ble k 6 then some (c + (k - 2)) else none
  | (0, 1) => bif Nat.ble k 1 then some (c + (k + 1)) else none
  | (0, 2) => bif Nat.ble 3 k && Nat.ble k 4 then some (c + (k - 2)) else none
  | (0, 3) => bif Nat.beq k 0 then some 2 else bif Nat.beq k 2 then some 3 else none
  | (0, 4) => bif Nat.ble 2 k && Nat.ble k 4 then some (c + (k - 1)) else none
  | (0, 5) => xm5 k
  | (0, 6) => xm6 k
  | (3, _) => bif Nat.ble k 1 then some (74 + 5 * k) else none
  | (4, _) => bif Nat.ble k 4 then some (84 + 3 * k) else none
  | _ => none
def xm (pm : Nat → Option Nat) : Nat → Nat → Option Nat := fun c k => bif Nat.beq c 16 then pm k else xn c k
def hG (mi : Nat → Nat → Int32) (ml : Nat → Nat → Int64) (pm : Nat → Option Nat) : hp_G := (mi, ml, xm pm, 113)
theorem xm_up (pm : Nat → Option Nat) (k : Nat) (v : Option Nat) : xm (va_up pm k v) = hw (xm pm) 16 k v := by
  funext c j
  by_cases h : c = 16
  · subst h
    by_cases hj : j = k
    · subst hj; simp [hw, xm, va_up]
    · simp [hw, xm, va_up, hj]
  · have hb : Nat.beq c 16 = false := by
      cases q : Nat.beq c 16 with
      | false => rfl
      | true => exact absurd (Nat.eq_of_beq_eq_true q) h
    simp [hw, xm, h, hb]
theorem hG_up (mi : Nat → Nat → Int32) (ml : Nat → Nat → Int64) (pm : Nat → Option Nat) (k q : Nat) : hG mi ml (va_up pm k (some q)) = (mi, ml, hw (xm pm) 16 k (some q), 113) := by
  simp only [hG, xm_up]
def sx_k (P : sx_P) : Nat → sx_S → sx_O
  | 0, s => some (.inr s)
  | n + 1, s => match sx_one P s with
    | some (.inr s') => sx_k P n s'
    | some (.inl r) => some (.inl r)
    | none => none
noncomputable def sx_c (P : sx_P) (o : sx_O) : Option sx_R := match o with
  | none => none
  | some (.inl r) => some r
  | some (.inr s') => sx_ev P s'
theorem sx_kc (P : sx_P) : ∀ (n : Nat) (s : sx_S), sx_ev P s = sx_c P (sx_k P n s)
  | 0, _ => rfl
  | n + 1, s => by
    rw [sx_fix]
    simp only [sx_k]
    cases h : sx_one P s with
    | none => rfl
    | some x =>
      cases x with
      | inl r => rfl
      | inr s' => exact sx_kc P n s'
section SXH
variable {P : sx_P} {s s' s1 s2 : sx_S} {T T1 T2 : Option sx_R} {r : sx_R}
theorem sx_tK (n : Nat) (h : sx_k P n s = some (.inr s')) (k : sx_ev P s' = T) : sx_ev P s = T := by rw [sx_kc P n s, h]; exact k
theorem sx_tE (n : Nat) (h : sx_k P n s = some (.inl r)) : sx_ev P s = some r := by rw [sx_kc P n s, h]; rfl
theorem sx_tG {c : Prop} {dc : Decidable c} (h : sx_one P s = if c then some (.inr s1) else none) (k : sx_ev P s1 = T) : sx_ev P s = if c then T else none := by
  rw [sx_fix, h]
  by_cases hc : c
  · rw [if_pos hc, if_pos hc]; exact k
  · rw [if_neg hc, if_neg hc]
theorem sx_tGE {c : Prop} {dc : Decidable c} (h : sx_one P s = if c then some (.inl r) else none) : sx_ev P s = if c then some r else none := by
  rw [sx_fix, h]
  by_cases hc : c
  · rw [if_pos hc, if_pos hc]
  · rw [if_neg hc, if_neg hc]
theorem sx_tN {c : Prop} {dc : Decidable c} (h : sx_one P s = if c then none else some (.inr s1)) (k : sx_ev P s1 = T) : sx_ev P s = if c then none else T := by
  rw [sx_fix, h]
  by_cases hc : c
  · rw [if_pos hc, if_pos hc]
  · rw [if_neg hc, if_neg hc]; exact k
theorem sx_tB {c : Prop} {dc : Decidable c} (h : sx_one P s = if c then some (.inr s1) else some (.inr s2)) (k1 : sx_ev P s1 = T1) (k2 : sx_ev P s2 = T2) : sx_ev P s = if c then T1 else T2 := by
  rw [sx_fix, h]
  by_cases hc : c
  · rw [if_pos hc, if_pos hc]; exact k1
  · rw [if_neg hc, if_neg hc]; exact k2
theorem sx_tA {n o j : Nat} {i : Int32} {G : hp_G} (ho : o < 113 ∧ (hp_sh o).1 = j ∧ (hp_sh o).2 = n) (h : sx_one P s = if (o < 113 ∧ (hp_sh o).1 = j ∧ sx_in i (hp_sh o).2) then some (.inr s1) else none) (k : sx_ev P s1 = T) : sx_ev P s = if sx_in i n then T else none := by
  rw [sx_fix, h]
  obtain ⟨h1, h2, h3⟩ := ho
  rw [h3]
  by_cases hc : sx_in i n
  · rw [if_pos ⟨h1, h2, hc⟩, if_pos hc]; exact k
  · rw [if_neg (fun q => hc q.2.2), if_neg hc]
theorem sx_tAZ {n o j : Nat} {i x : Int32} {G : hp_G} (ho : o < 113 ∧ (hp_sh o).1 = j ∧ (hp_sh o).2 = n) (hx : sx_01 x) (h : sx_one P s = if (o < 113 ∧ (hp_sh o).1 = j ∧ sx_in i (hp_sh o).2) ∧ sx_01 x then some (.inr s1) else none) (k : sx_ev P s1 = T) : sx_ev P s = if sx_in i n then T else none := by
  rw [sx_fix, h]
  obtain ⟨h1, h2, h3⟩ := ho
  rw [h3]
  by_cases hc : sx_in i n
  · rw [if_pos ⟨⟨h1, h2, hc⟩, hx⟩, if_pos hc]; exact k
  · rw [if_neg (fun q => hc q.1.2.2), if_neg hc]
theorem sx_tM {x : Option Nat} {s1 : Nat → sx_S} {T : Nat → Option sx_R} (h : sx_one P s = x.bind (fun q => some (.inr (s1 q)))) (k : ∀ q, sx_ev P (s1 q) = T q) : sx_ev P s = x.bind T := by
  rw [sx_fix, h]
  cases x with
  | none => rfl
  | some q => exact k q
theorem sx_tGM {c : Prop} {dc : Decidable c} {x : Option Nat} {s1 : Nat → sx_S} {T : Nat → Option sx_R} (h : sx_one P s = if c then x.bind (fun q => some (.inr (s1 q))) else none) (k : ∀ q, sx_ev P (s1 q) = T q) : sx_ev P s = if c then x.bind T else none := by
  rw [sx_fix, h]
  by_cases hc : c
  · rw [if_pos hc, if_pos hc]
    cases x with
    | none => rfl
    | some q => exact k q
  · rw [if_neg hc, if_neg hc]
theorem sx_tAM {n o j : Nat} {i : Int32} {G : hp_G} {x : Option Nat} {s1 : Nat → sx_S} {T : Nat → Option sx_R} (ho : o < 113 ∧ (hp_sh o).1 = j ∧ (hp_sh o).2 = n) (h : sx_one P s = if (o < 113 ∧ (hp_sh o).1 = j ∧ sx_in i (hp_sh o).2) then x.bind (fun q => some (.inr (s1 q))) else none) (k : ∀ q, sx_ev P (s1 q) = T q) : sx_ev P s = if sx_in i n then x.bind T else none := by
  rw [sx_fix, h]
  obtain ⟨h1, h2, h3⟩ := ho
  rw [h3]
  by_cases hc : sx_in i n
  · rw [if_pos ⟨h1, h2, hc⟩, if_pos hc]
    cases x with
    | none => rfl
    | some q => exact k q
  · rw [if_neg (fun q => hc q.2.2), if_neg hc]
theorem sx_cI {r : Option sx_R} {s1 : Int32 → hp_G → sx_S} {T : Int32 → hp_G → Option sx_R} (k : ∀ x g, sx_ev P (s1 x g) = T x g) : sx_c P (bI r (fun x g => some (.inr (s1 x g)))) = bI r T := by
  simp only [bI]
  split
  · exact k _ _
  · rfl
theorem sx_cL {r : Option sx_R} {s1 : Int64 → hp_G → sx_S} {T : Int64 → hp_G → Option sx_R} (k : ∀ x g, sx_ev P (s1 x g) = T x g) : sx_c P (bL r (fun x g => some (.inr (s1 x g)))) = bL r T := by
  simp only [bL]
  split
  · exact k _ _
  · rfl
theorem sx_cV {r : Option sx_R} {s1 : hp_G → sx_S} {T : hp_G → Option sx_R} (k : ∀ g, sx_ev P (s1 g) = T g) : sx_c P (bV r (fun g => some (.inr (s1 g)))) = bV r T := by
  simp only [bV]
  split
  · exact k _
  · rfl
theorem sx_fixc (P : sx_P) (s : sx_S) : sx_ev P s = sx_c P (sx_one P s) := sx_fix P s
theorem sx_tI {r : Option sx_R} {s1 : Int32 → hp_G → sx_S} {T : Int32 → hp_G → Option sx_R} (h : sx_one P s = bI r (fun x g => some (.inr (s1 x g)))) (k : ∀ x g, sx_ev P (s1 x g) = T x g) : sx_ev P s = bI r T := by rw [sx_fixc, h]; exact sx_cI k
theorem sx_tL {r : Option sx_R} {s1 : Int64 → hp_G → sx_S} {T : Int64 → hp_G → Option sx_R} (h : sx_one P s = bL r (fun x g => some (.inr (s1 x g)))) (k : ∀ x g, sx_ev P (s1 x g) = T x g) : sx_ev P s = bL r T := by rw [sx_fixc, h]; exact sx_cL k
theorem sx_tV {r : Option sx_R} {s1 : hp_G → sx_S} {T : hp_G → Option sx_R} (h : sx_one P s = bV r (fun g => some (.inr (s1 g)))) (k : ∀ g, sx_ev P (s1 g) = T g) : sx_ev P s = bV r T := by rw [sx_fixc, h]; exact sx_cV k
theorem sx_tGI {c : Prop} {dc : Decidable c} {r : Option sx_R} {s1 : Int32 → hp_G → sx_S} {T : Int32 → hp_G → Option sx_R} (h : sx_one P s = if c then bI r (fun x g => some (.inr (s1 x g))) else none) (k : ∀ x g, sx_ev P (s1 x g) = T x g) : sx_ev P s = if c then bI r T else none := by
  rw [sx_fixc, h]
  by_cases hc : c
  · rw [if_pos hc, if_pos hc]; exact sx_cI k
  · rw [if_neg hc, if_neg hc]; rfl
theorem sx_tGV {c : Prop} {dc : Decidable c} {r : Option sx_R} {s1 : hp_G → sx_S} {T : hp_G → Option sx_R} (h : sx_one P s = if c then bV r (fun g => some (.inr (s1 g))) else none) (k : ∀ g, sx_ev P (s1 g) = T g) : sx_ev P s = if c then bV r T else none := by
  rw [sx_fixc, h]
  by_cases hc : c
  · rw [if_pos hc, if_pos hc]; exact sx_cV k
  · rw [if_neg hc, if_neg hc]; rfl
theorem sx_w0 {S : sx_S} {q : List Value} {d : Nat} {x : Int32} (k : sx_ev P (d, S.2.1, q, S.2.2.2) = T) : sx_c P (o_swk S q d x []) = T := k
theorem sx_w1 {S : sx_S} {q : List Value} {d t : Nat} {x v : Int32} {l : List (Int32 × Nat)} (k1 : sx_ev P (t, S.2.1, q, S.2.2.2) = T1) (k : sx_c P (o_swk S q d x l) = T2) : sx_c P (o_swk S q d x ((v, t) :: l)) = if x = v then T1 else T2 := by
  simp only [o_swk]
  by_cases hc : x = v
  · rw [if_pos hc, if_pos hc]; exact k1
  · rw [if_neg hc, if_neg hc]; exact k
theorem sx_tS {r : List Value} {d : Nat} {x : Int32} {l : List (Int32 × Nat)} (h : sx_one P s = o_swk s r d x l) (k : sx_c P (o_swk s r d x l) = T) : sx_ev P s = T := by rw [sx_fixc, h]; exact k
end SXH
