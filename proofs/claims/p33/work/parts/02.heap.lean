/-! THE HEAP AS NUMBERS: cell o (in the order in which the law makes them), place k: an int, a long, a reference to another cell. Shapes are fixed ahead: (0, class), (1, n) int[n], (2, n) boolean[n], (3, n) Moment[n], (4, n) Sight[n]. -/
abbrev hp_G : Type := (Nat → Nat → Int32) × (Nat → Nat → Int64) × (Nat → Nat → Option Nat) × Nat
def hp_sh (o : Nat) : Nat × Nat := (bif Nat.blt o 56 then (bif Nat.blt o 28 then (bif Nat.blt o 14 then (bif Nat.blt o 7 then (bif Nat.blt o 3 then (bif Nat.blt o 1 then (0, 5) else (bif Nat.blt o 2 then (0, 3) else (1, 200))) else (bif Nat.blt o 5 then (bif Nat.blt o 4 then (0, 4) else (1, 7)) else (1, 7))) else (bif Nat.blt o 10 then (bif Nat.blt o 8 then (0, 4) else (1, 7)) else (bif Nat.blt o 12 then (bif Nat.blt o 11 then (1, 7) else (0, 0)) else (1, 7)))) else (bif Nat.blt o 21 then (bif Nat.blt o 17 then (bif Nat.blt o 15 then (1, 7) else (bif Nat.blt o 16 then (1, 7) else (3, 10))) else (bif Nat.blt o 19 then (bif Nat.blt o 18 then (3, 2) else (2, 2)) else (bif Nat.blt o 20 then (4, 5) else (0, 1)))) else (bif Nat.blt o 24 then (bif Nat.blt o 22 then (1, 49) else (bif Nat.blt o 23 then (1, 896) else (1, 8))) else (bif Nat.blt o 26 then (bif Nat.blt o 25 then (0, 0) else (1, 7)) else (1, 7))))) else (bif Nat.blt o 42 then (bif Nat.blt o 35 then (bif Nat.blt o 31 then (bif Nat.blt o 29 then (1, 7) else (bif Nat.blt o 30 then (0, 0) else (1, 7))) else (bif Nat.blt o 33 then (1, 7) else (bif Nat.blt o 34 then (1, 7) else (0, 0)))) else (bif Nat.blt o 38 then (1, 7) else (bif Nat.blt o 40 then (bif Nat.blt o 39 then (1, 7) else (0, 0)) else (1, 7)))) else (bif Nat.blt o 49 then (bif Nat.blt o 45 then (bif Nat.blt o 43 then (1, 7) else (bif Nat.blt o 44 then (1, 7) else (0, 0))) else (1, 7)) else (bif Nat.blt o 52 then (bif Nat.blt o 50 then (0, 0) else (1, 7)) else (bif Nat.blt o 54 then (1, 7) else (bif Nat.blt o 55 then (0, 0) else (1, 7))))))) else (bif Nat.blt o 84 then (bif Nat.blt o 70 then (bif Nat.blt o 63 then (bif Nat.blt o 59 then (1, 7) else (bif Nat.blt o 61 then (bif Nat.blt o 60 then (0, 0) else (1, 7)) else (1, 7))) else (bif Nat.blt o 66 then (bif Nat.blt o 64 then (1, 7) else (bif Nat.blt o 65 then (0, 0) else (1, 7))) else (bif Nat.blt o 68 then (1, 7) else (bif Nat.blt o 69 then (1, 7) else (0, 0))))) else (bif Nat.blt o 77 then (bif Nat.blt o 73 then (1, 7) else (bif Nat.blt o 75 then (bif Nat.blt o 74 then (1, 7) else (0, 0)) else (1, 7))) else (bif Nat.blt o 80 then (bif Nat.blt o 78 then (1, 7) else (bif Nat.blt o 79 then (1, 7) else (0, 0))) else (1, 7)))) else (bif Nat.blt o 98 then (bif Nat.blt o 91 then (bif Nat.blt o 87 then (bif Nat.blt o 85 then (0, 2) else (1, 7)) else (bif Nat.blt o 89 then (bif Nat.blt o 88 then (0, 2) else (1, 7)) else (bif Nat.blt o 90 then (1, 7) else (0, 2)))) else (bif Nat.blt o 94 then (bif Nat.blt o 92 then (1, 7) else (bif Nat.blt o 93 then (1, 7) else (0, 2))) else (bif Nat.blt o 96 then (1, 7) else (bif Nat.blt o 97 then (0, 2) else (1, 7))))) else (bif Nat.blt o 105 then (bif Nat.blt o 101 then (bif Nat.blt o 99 then (1, 7) else (bif Nat.blt o 100 then (0, 6) else (1, 200))) else (bif Nat.blt o 103 then (bif Nat.blt o 102 then (1, 4) else (1, 14)) else (1, 14))) else (bif Nat.blt o 109 then (bif Nat.blt o 107 then (bif Nat.blt o 106 then (1, 32) else (1, 64)) else (bif Nat.blt o 108 then (2, 2) else (1, 320))) else (bif Nat.blt o 111 then (1, 5) else (bif Nat.blt o 112 then (1, 896) else (1, 8))))))))
abbrev hp_cl : List vw_C := [(RX0, TX0, 8), (RX1, TX1, 3), (RX2, TX2, 5), (RX3, TX3, 9), (RX4, TX4, 5), (RX5, TX5, 12), (RX6, TX6, 24)]
def hp_n (ci : Nat) : Nat := match ci with
  | 0 => 8 | 1 => 3 | 2 => 5 | 3 => 9 | 4 => 5 | 5 => 12 | _ => 24
def hp_T (ci : Nat) : u_T := match ci with
  | 0 => TX0 | 1 => TX1 | 2 => TX2 | 3 => TX3 | 4 => TX4 | 5 => TX5 | _ => TX6
def hp_R (ci : Nat) : String := match ci with
  | 0 => RX0 | 1 => RX1 | 2 => RX2 | 3 => RX3 | 4 => RX4 | 5 => RX5 | _ => RX6
def hp_ty (ci : Nat) : Nat → FieldType := match ci with
  | 0 => tyX0 | 1 => tyX1 | 2 => tyX2 | 3 => tyX3 | 4 => tyX4 | 5 => tyX5 | _ => tyX6
theorem hp_clE {ci : Nat} (h : ci < 7) : hp_cl[ci]? = some (hp_R ci, hp_T ci, hp_n ci) := by
  match ci, h with
  | 0, _ => rfl | 1, _ => rfl | 2, _ => rfl | 3, _ => rfl | 4, _ => rfl | 5, _ => rfl | 6, _ => rfl
  | k + 7, h => omega
theorem hp_nm {ci : Nat} (h : ci < 7) : ∀ a, a < hp_n ci → ∀ b, b < hp_n ci → a ≠ b → (hp_T ci a).2.1 ≠ (hp_T ci b).2.1 := by
  match ci, h with
  | 0, _ => exact nmX0 | 1, _ => exact nmX1 | 2, _ => exact nmX2 | 3, _ => exact nmX3 | 4, _ => exact nmX4 | 5, _ => exact nmX5 | 6, _ => exact nmX6
  | k + 7, h => omega
theorem hp_tyok {ci : Nat} (h : ci < 7) : ∀ k, k < hp_n ci → parseFieldDescriptor (hp_T ci k).2.2.1 = some (hp_ty ci k) := by
  match ci, h with
  | 0, _ => exact tyX0_ok | 1, _ => exact tyX1_ok | 2, _ => exact tyX2_ok | 3, _ => exact tyX3_ok | 4, _ => exact tyX4_ok | 5, _ => exact tyX5_ok | 6, _ => exact tyX6_ok
  | k + 7, h => omega
def hw {α : Type} (f : Nat → Nat → α) (c k : Nat) (v : α) : Nat → Nat → α := fun c' k' => if c' = c then (if k' = k then v else f c' k') else f c' k'
def hz {α : Type} (f : Nat → Nat → α) (c : Nat) (v : α) : Nat → Nat → α := fun c' k' => if c' = c then v else f c' k'
def hy (f : Nat → Nat → Int32) (s d sp dp n : Nat) : Nat → Nat → Int32 := fun c' k' => if c' = d then va_cpy (f s) (f d) sp dp n k' else f c' k'
theorem hw_at {α : Type} (f : Nat → Nat → α) (c k : Nat) (v : α) : hw f c k v c = va_up (f c) k v := by funext j; simp [hw, va_up]
theorem hw_upd (f : Nat → Nat → Int32) (c k : Nat) (v : Int32) : hw f c k v c = upd (f c) k v := by funext j; simp [hw, upd]
theorem hw_ne {α : Type} (f : Nat → Nat → α) {c c' : Nat} (k : Nat) (v : α) (h : c' ≠ c) : hw f c k v c' = f c' := by funext j; simp [hw, h]
theorem hz_at {α : Type} (f : Nat → Nat → α) (c : Nat) (v : α) : hz f c v c = fun _ => v := by funext j; simp [hz]
theorem hz_ne {α : Type} (f : Nat → Nat → α) {c c' : Nat} (v : α) (h : c' ≠ c) : hz f c v c' = f c' := by funext j; simp [hz, h]
theorem hy_at (f : Nat → Nat → Int32) (s d sp dp n : Nat) : hy f s d sp dp n d = va_cpy (f s) (f d) sp dp n := by funext j; simp [hy]
theorem hy_ne (f : Nat → Nat → Int32) (s : Nat) {d c' : Nat} (sp dp n : Nat) (h : c' ≠ d) : hy f s d sp dp n c' = f c' := by funext j; simp [hy, h]
def hp_f (ba : Nat) (G : hp_G) (ci c k : Nat) : Value := match hp_ty ci k with
  | .int => .int (G.1 c k)
  | .boolean => .int (G.1 c k)
  | .long => .long (G.2.1 c k)
  | _ => va_rf ((G.2.2.1 c k).map (fun q => ba + q))
def hp_fs (ba : Nat) (G : hp_G) (ci c : Nat) : List Value := (List.range (hp_n ci)).map (hp_f ba G ci c)
def hp_e (cK : Nat → ClassId) (ba : Nat) (G : hp_G) (c : Nat) : va_E := match hp_sh c with
  | (0, ci) => .inr (ci, hp_fs ba G ci c)
  | (1, n) => .inl (cK 0, n, .inl (G.1 c))
  | (2, n) => .inl (cK 1, n, .inl (G.1 c))
  | (j + 3, n) => .inl (cK (j + 2), n, .inr (.inr (.inr (.inr (fun k => (G.2.2.1 c k).map (fun q => ba + q))))))
def hp_w (cK : Nat → ClassId) (ba : Nat) (G : hp_G) : va_W := (List.range G.2.2.2).map (fun c => (ba + c, hp_e cK ba G c))
def hp_tys (cK : Nat → ClassId) : List (ClassId × FieldType) := [(cK 0, .int), (cK 1, .boolean), (cK 2, .object RX0), (cK 3, .object RX2)]
theorem hp_wAt (cK : Nat → ClassId) (ba : Nat) {G : hp_G} {o : Nat} (h : o < G.2.2.2) : (hp_w cK ba G)[o]? = some (ba + o, hp_e cK ba G o) := by
  simp [hp_w, List.getElem?_map, List.getElem?_range h]
theorem hp_wIn {cK : Nat → ClassId} {ba : Nat} {G : hp_G} {o : Nat} {q : Nat × va_E} (h : (hp_w cK ba G)[o]? = some q) : o < G.2.2.2 ∧ q = (ba + o, hp_e cK ba G o) := by
  have hl : o < (hp_w cK ba G).length := (List.getElem?_eq_some_iff.mp h).1
  have hl : o < G.2.2.2 := by simpa [hp_w] using hl
  rw [hp_wAt cK ba hl] at h
  exact ⟨hl, (Option.some.inj h).symm⟩
theorem hp_D (cK : Nat → ClassId) (ba : Nat) (G : hp_G) : va_D (fun q => ba ≤ q) (hp_w cK ba G) := by
  refine ⟨fun i j p q hi hj h => ?_, fun k q h => ?_⟩
  · obtain ⟨-, rfl⟩ := hp_wIn hi
    obtain ⟨-, rfl⟩ := hp_wIn hj
    have h : ba + i = ba + j := h
    omega
  · obtain ⟨-, rfl⟩ := hp_wIn h
    exact Nat.le_add_right _ _
theorem hp_set {cK : Nat → ClassId} {ba : Nat} {G G' : hp_G} {o : Nat} {e : va_E} (hn : G'.2.2.2 = G.2.2.2) (ho : ∀ c, c ≠ o → hp_e cK ba G' c = hp_e cK ba G c) (he : hp_e cK ba G' o = e) : (hp_w cK ba G).set o (ba + o, e) = hp_w cK ba G' := by
  subst he
  apply List.ext_getElem?
  intro i
  by_cases hi : i < G.2.2.2
  · by_cases h : i = o
    · subst h
      rw [hp_wAt cK ba (by rw [hn]; exact hi), List.getElem?_set_self (by simpa [hp_w] using hi)]
    · rw [hp_wAt cK ba (by rw [hn]; exact hi), List.getElem?_set_ne (Ne.symm h), hp_wAt cK ba hi, ho i h]
  · rw [List.getElem?_eq_none (by simp [hp_w]; omega), List.getElem?_eq_none (by simp [hp_w, hn]; omega)]
theorem hp_push {cK : Nat → ClassId} {ba : Nat} {G G' : hp_G} {e : va_E} (hn : G'.2.2.2 = G.2.2.2 + 1) (ho : ∀ c, c ≠ G.2.2.2 → hp_e cK ba G' c = hp_e cK ba G c) (he : hp_e cK ba G' G.2.2.2 = e) : hp_w cK ba G ++ [(ba + G.2.2.2, e)] = hp_w cK ba G' := by
  subst he
  simp only [hp_w, hn, List.range_succ, List.map_append, List.map_cons, List.map_nil]
  congr 1
  apply List.map_congr_left
  intro c hc
  have := List.mem_range.mp hc
  rw [ho c (by omega)]
theorem hp_fsAt (ba : Nat) (G : hp_G) (ci c : Nat) {k : Nat} (h : k < hp_n ci) : (hp_fs ba G ci c)[k]? = some (hp_f ba G ci c k) := by
  simp [hp_fs, List.getElem?_map, List.getElem?_range h]
theorem hp_fsSet {ba : Nat} {G G' : hp_G} {ci c k : Nat} {v : Value} (ho : ∀ j, j ≠ k → hp_f ba G' ci c j = hp_f ba G ci c j) (hv : hp_f ba G' ci c k = v) : (hp_fs ba G ci c).set k v = hp_fs ba G' ci c := by
  subst hv
  apply List.ext_getElem?
  intro i
  by_cases hi : i < hp_n ci
  · by_cases h : i = k
    · subst h
      rw [hp_fsAt ba G' ci c hi, List.getElem?_set_self (by simpa [hp_fs] using hi)]
    · rw [hp_fsAt ba G' ci c hi, List.getElem?_set_ne (Ne.symm h), hp_fsAt ba G ci c hi, ho i h]
  · rw [List.getElem?_eq_none (by simp [hp_fs]; omega), List.getElem?_eq_none (by simp [hp_fs]; omega)]
theorem hp_eO {cK : Nat → ClassId} {ba : Nat} {G : hp_G} {c ci : Nat} (h : hp_sh c = (0, ci)) : hp_e cK ba G c = .inr (ci, hp_fs ba G ci c) := by
  simp [hp_e, h]
theorem hp_eI {cK : Nat → ClassId} {ba : Nat} {G : hp_G} {c n : Nat} (h : hp_sh c = (1, n)) : hp_e cK ba G c = .inl (cK 0, n, .inl (G.1 c)) := by
  simp [hp_e, h]
theorem hp_eZ {cK : Nat → ClassId} {ba : Nat} {G : hp_G} {c n : Nat} (h : hp_sh c = (2, n)) : hp_e cK ba G c = .inl (cK 1, n, .inl (G.1 c)) := by
  simp [hp_e, h]
theorem hp_eR {cK : Nat → ClassId} {ba : Nat} {G : hp_G} {c j n : Nat} (h : hp_sh c = (j + 3, n)) : hp_e cK ba G c = .inl (cK (j + 2), n, .inr (.inr (.inr (.inr (fun k => (G.2.2.1 c k).map (fun q => ba + q)))))) := by
  simp [hp_e, h]
theorem hp_eX {cK : Nat → ClassId} {ba : Nat} {G G' : hp_G} {c : Nat} (h1 : G'.1 c = G.1 c) (h2 : G'.2.1 c = G.2.1 c) (h3 : G'.2.2.1 c = G.2.2.1 c) : hp_e cK ba G' c = hp_e cK ba G c := by
  have hf : ∀ ci, hp_fs ba G' ci c = hp_fs ba G ci c := by
    intro ci
    have hg : hp_f ba G' ci c = hp_f ba G ci c := by funext k; simp only [hp_f, h1, h2, h3]
    simp only [hp_fs, hg]
  simp only [hp_e, hf, h1, h3]
def hp_sz (o : Nat) : Nat := match hp_sh o with
  | (0, ci) => hp_n ci
  | (_, n) => n
def hp_tot : Nat → Nat
  | 0 => 0
  | n + 1 => hp_tot n + hp_sz n
theorem hp_totLe {a b : Nat} (h : a ≤ b) : hp_tot a ≤ hp_tot b := by
  induction b with
  | zero => simp [Nat.le_zero.mp h]
  | succ b ih =>
    rcases Nat.lt_or_ge b a with q | q
    · have : a = b + 1 := by omega
      subst this; exact Nat.le_refl _
    · exact Nat.le_trans (ih q) (Nat.le_add_right _ _)
