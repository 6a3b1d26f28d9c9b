/-! A RUN: cells are never given back; a method's soundness; the rows by which a method is read -/
theorem n_co {v : Value} {n : Nat} {S S' : sx_S} (h : o_co v n S = some (.inr S')) : S.2.2.2.2.2.2 ≤ S'.2.2.2.2.2.2 := by
  obtain ⟨pc, ls, st, G⟩ := S
  simp only [o_co] at h
  (repeat' split at h) <;> cases h <;> first | exact Nat.le_refl _ | exact Nat.le_succ _
theorem i_co {v : Value} {n : Nat} {S : sx_S} {r : sx_R} (h : o_co v n S = some (.inl r)) : False := by
  obtain ⟨pc, ls, st, G⟩ := S
  simp only [o_co] at h
  (repeat' split at h) <;> cases h
theorem n_bi {f : Int32 → Int32 → Int32} {S S' : sx_S} (h : o_bi f S = some (.inr S')) : S.2.2.2.2.2.2 ≤ S'.2.2.2.2.2.2 := by
  obtain ⟨pc, ls, st, G⟩ := S
  simp only [o_bi] at h
  (repeat' split at h) <;> cases h <;> first | exact Nat.le_refl _ | exact Nat.le_succ _
theorem i_bi {f : Int32 → Int32 → Int32} {S : sx_S} {r : sx_R} (h : o_bi f S = some (.inl r)) : False := by
  obtain ⟨pc, ls, st, G⟩ := S
  simp only [o_bi] at h
  (repeat' split at h) <;> cases h
theorem n_dv {f : Int32 → Int32 → Int32} {S S' : sx_S} (h : o_dv f S = some (.inr S')) : S.2.2.2.2.2.2 ≤ S'.2.2.2.2.2.2 := by
  obtain ⟨pc, ls, st, G⟩ := S
  simp only [o_dv] at h
  (repeat' split at h) <;> cases h <;> first | exact Nat.le_refl _ | exact Nat.le_succ _
theorem i_dv {f : Int32 → Int32 → Int32} {S : sx_S} {r : sx_R} (h : o_dv f S = some (.inl r)) : False := by
  obtain ⟨pc, ls, st, G⟩ := S
  simp only [o_dv] at h
  (repeat' split at h) <;> cases h
theorem n_ladd  {S S' : sx_S} (h : o_ladd  S = some (.inr S')) : S.2.2.2.2.2.2 ≤ S'.2.2.2.2.2.2 := by
  obtain ⟨pc, ls, st, G⟩ := S
  simp only [o_ladd] at h
  (repeat' split at h) <;> cases h <;> first | exact Nat.le_refl _ | exact Nat.le_succ _
theorem i_ladd  {S : sx_S} {r : sx_R} (h : o_ladd  S = some (.inl r)) : False := by
  obtain ⟨pc, ls, st, G⟩ := S
  simp only [o_ladd] at h
  (repeat' split at h) <;> cases h
theorem n_lcmp  {S S' : sx_S} (h : o_lcmp  S = some (.inr S')) : S.2.2.2.2.2.2 ≤ S'.2.2.2.2.2.2 := by
  obtain ⟨pc, ls, st, G⟩ := S
  simp only [o_lcmp] at h
  (repeat' split at h) <;> cases h <;> first | exact Nat.le_refl _ | exact Nat.le_succ _
theorem i_lcmp  {S : sx_S} {r : sx_R} (h : o_lcmp  S = some (.inl r)) : False := by
  obtain ⟨pc, ls, st, G⟩ := S
  simp only [o_lcmp] at h
  (repeat' split at h) <;> cases h
theorem n_ldi {i n : Nat} {S S' : sx_S} (h : o_ldi i n S = some (.inr S')) : S.2.2.2.2.2.2 ≤ S'.2.2.2.2.2.2 := by
  obtain ⟨pc, ls, st, G⟩ := S
  simp only [o_ldi] at h
  (repeat' split at h) <;> cases h <;> first | exact Nat.le_refl _ | exact Nat.le_succ _
theorem i_ldi {i n : Nat} {S : sx_S} {r : sx_R} (h : o_ldi i n S = some (.inl r)) : False := by
  obtain ⟨pc, ls, st, G⟩ := S
  simp only [o_ldi] at h
  (repeat' split at h) <;> cases h
theorem n_lda {i n : Nat} {S S' : sx_S} (h : o_lda i n S = some (.inr S')) : S.2.2.2.2.2.2 ≤ S'.2.2.2.2.2.2 := by
  obtain ⟨pc, ls, st, G⟩ := S
  simp only [o_lda] at h
  (repeat' split at h) <;> cases h <;> first | exact Nat.le_refl _ | exact Nat.le_succ _
theorem i_lda {i n : Nat} {S : sx_S} {r : sx_R} (h : o_lda i n S = some (.inl r)) : False := by
  obtain ⟨pc, ls, st, G⟩ := S
  simp only [o_lda] at h
  (repeat' split at h) <;> cases h
theorem n_sti {i n : Nat} {S S' : sx_S} (h : o_sti i n S = some (.inr S')) : S.2.2.2.2.2.2 ≤ S'.2.2.2.2.2.2 := by
  obtain ⟨pc, ls, st, G⟩ := S
  simp only [o_sti] at h
  (repeat' split at h) <;> cases h <;> first | exact Nat.le_refl _ | exact Nat.le_succ _
theorem i_sti {i n : Nat} {S : sx_S} {r : sx_R} (h : o_sti i n S = some (.inl r)) : False := by
  obtain ⟨pc, ls, st, G⟩ := S
  simp only [o_sti] at h
  (repeat' split at h) <;> cases h
theorem n_sta {i n : Nat} {S S' : sx_S} (h : o_sta i n S = some (.inr S')) : S.2.2.2.2.2.2 ≤ S'.2.2.2.2.2.2 := by
  obtain ⟨pc, ls, st, G⟩ := S
  simp only [o_sta] at h
  (repeat' split at h) <;> cases h <;> first | exact Nat.le_refl _ | exact Nat.le_succ _
theorem i_sta {i n : Nat} {S : sx_S} {r : sx_R} (h : o_sta i n S = some (.inl r)) : False := by
  obtain ⟨pc, ls, st, G⟩ := S
  simp only [o_sta] at h
  (repeat' split at h) <;> cases h
theorem n_inc1 {i : Nat} {z : Int32} {S S' : sx_S} (h : o_inc1 i z S = some (.inr S')) : S.2.2.2.2.2.2 ≤ S'.2.2.2.2.2.2 := by
  obtain ⟨pc, ls, st, G⟩ := S
  simp only [o_inc1] at h
  (repeat' split at h) <;> cases h <;> first | exact Nat.le_refl _ | exact Nat.le_succ _
theorem i_inc1 {i : Nat} {z : Int32} {S : sx_S} {r : sx_R} (h : o_inc1 i z S = some (.inl r)) : False := by
  obtain ⟨pc, ls, st, G⟩ := S
  simp only [o_inc1] at h
  (repeat' split at h) <;> cases h
theorem n_ci {lv : List (Int32 × Nat)} {n : Nat} {S S' : sx_S} (h : o_ci lv n S = some (.inr S')) : S.2.2.2.2.2.2 ≤ S'.2.2.2.2.2.2 := by
  cases lv with
  | nil => cases h
  | cons q r => exact n_co h
theorem i_ci {lv : List (Int32 × Nat)} {n : Nat} {S : sx_S} {r : sx_R} (h : o_ci lv n S = some (.inl r)) : False := by
  cases lv with
  | nil => cases h
  | cons q r => exact i_co h
theorem n_inc {i : Nat} {lv : List (Int32 × Nat)} {S S' : sx_S} (h : o_inc i lv S = some (.inr S')) : S.2.2.2.2.2.2 ≤ S'.2.2.2.2.2.2 := by
  cases lv with
  | nil => cases h
  | cons q r => exact n_inc1 h
theorem i_inc {i : Nat} {lv : List (Int32 × Nat)} {S : sx_S} {r : sx_R} (h : o_inc i lv S = some (.inl r)) : False := by
  cases lv with
  | nil => cases h
  | cons q r => exact i_inc1 h
theorem n_dup {S S' : sx_S} (h : o_dup  S = some (.inr S')) : S.2.2.2.2.2.2 ≤ S'.2.2.2.2.2.2 := by
  obtain ⟨pc, ls, st, G⟩ := S
  simp only [o_dup] at h
  (repeat' split at h) <;> cases h <;> first | exact Nat.le_refl _ | exact Nat.le_succ _
theorem i_dup  {S : sx_S} {r : sx_R} (h : o_dup  S = some (.inl r)) : False := by
  obtain ⟨pc, ls, st, G⟩ := S
  simp only [o_dup] at h
  (repeat' split at h) <;> cases h
theorem n_dup2  {S S' : sx_S} (h : o_dup2  S = some (.inr S')) : S.2.2.2.2.2.2 ≤ S'.2.2.2.2.2.2 := by
  obtain ⟨pc, ls, st, G⟩ := S
  simp only [o_dup2] at h
  (repeat' split at h) <;> cases h <;> first | exact Nat.le_refl _ | exact Nat.le_succ _
theorem i_dup2  {S : sx_S} {r : sx_R} (h : o_dup2  S = some (.inl r)) : False := by
  obtain ⟨pc, ls, st, G⟩ := S
  simp only [o_dup2] at h
  (repeat' split at h) <;> cases h
theorem n_pop  {S S' : sx_S} (h : o_pop  S = some (.inr S')) : S.2.2.2.2.2.2 ≤ S'.2.2.2.2.2.2 := by
  obtain ⟨pc, ls, st, G⟩ := S
  simp only [o_pop] at h
  (repeat' split at h) <;> cases h <;> first | exact Nat.le_refl _ | exact Nat.le_succ _
theorem i_pop  {S : sx_S} {r : sx_R} (h : o_pop  S = some (.inl r)) : False := by
  obtain ⟨pc, ls, st, G⟩ := S
  simp only [o_pop] at h
  (repeat' split at h) <;> cases h
theorem n_pop2  {S S' : sx_S} (h : o_pop2  S = some (.inr S')) : S.2.2.2.2.2.2 ≤ S'.2.2.2.2.2.2 := by
  obtain ⟨pc, ls, st, G⟩ := S
  simp only [o_pop2] at h
  (repeat' split at h) <;> cases h <;> first | exact Nat.le_refl _ | exact Nat.le_succ _
theorem i_pop2  {S : sx_S} {r : sx_R} (h : o_pop2  S = some (.inl r)) : False := by
  obtain ⟨pc, ls, st, G⟩ := S
  simp only [o_pop2] at h
  (repeat' split at h) <;> cases h
theorem n_get {ci k : Nat} {S S' : sx_S} (h : o_get ci k S = some (.inr S')) : S.2.2.2.2.2.2 ≤ S'.2.2.2.2.2.2 := by
  obtain ⟨pc, ls, st, G⟩ := S
  simp only [o_get] at h
  (repeat' split at h) <;> first | (cases h; done) | (cases h; exact Nat.le_refl _) | (obtain ⟨q, -, hq⟩ := Option.bind_eq_some_iff.mp h; cases hq; exact Nat.le_refl _)
theorem i_get {ci k : Nat} {S : sx_S} {r : sx_R} (h : o_get ci k S = some (.inl r)) : False := by
  obtain ⟨pc, ls, st, G⟩ := S
  simp only [o_get] at h
  (repeat' split at h) <;> first | (cases h; done) | (obtain ⟨q, -, hq⟩ := Option.bind_eq_some_iff.mp h; cases hq)
theorem n_put {ci k : Nat} {S S' : sx_S} (h : o_put ci k S = some (.inr S')) : S.2.2.2.2.2.2 ≤ S'.2.2.2.2.2.2 := by
  obtain ⟨pc, ls, st, G⟩ := S
  simp only [o_put] at h
  (repeat' split at h) <;> cases h <;> first | exact Nat.le_refl _ | exact Nat.le_succ _
theorem i_put {ci k : Nat} {S : sx_S} {r : sx_R} (h : o_put ci k S = some (.inl r)) : False := by
  obtain ⟨pc, ls, st, G⟩ := S
  simp only [o_put] at h
  (repeat' split at h) <;> cases h
theorem n_iald {sc : Option (Nat × (Nat → Int32))} {S S' : sx_S} (h : o_iald sc S = some (.inr S')) : S.2.2.2.2.2.2 ≤ S'.2.2.2.2.2.2 := by
  obtain ⟨pc, ls, st, G⟩ := S
  simp only [o_iald] at h
  (repeat' split at h) <;> cases h <;> first | exact Nat.le_refl _ | exact Nat.le_succ _
theorem i_iald {sc : Option (Nat × (Nat → Int32))} {S : sx_S} {r : sx_R} (h : o_iald sc S = some (.inl r)) : False := by
  obtain ⟨pc, ls, st, G⟩ := S
  simp only [o_iald] at h
  (repeat' split at h) <;> cases h
theorem n_alen {sc : Option (Nat × (Nat → Int32))} {S S' : sx_S} (h : o_alen sc S = some (.inr S')) : S.2.2.2.2.2.2 ≤ S'.2.2.2.2.2.2 := by
  obtain ⟨pc, ls, st, G⟩ := S
  simp only [o_alen] at h
  (repeat' split at h) <;> cases h <;> first | exact Nat.le_refl _ | exact Nat.le_succ _
theorem i_alen {sc : Option (Nat × (Nat → Int32))} {S : sx_S} {r : sx_R} (h : o_alen sc S = some (.inl r)) : False := by
  obtain ⟨pc, ls, st, G⟩ := S
  simp only [o_alen] at h
  (repeat' split at h) <;> cases h
theorem n_zald  {S S' : sx_S} (h : o_zald  S = some (.inr S')) : S.2.2.2.2.2.2 ≤ S'.2.2.2.2.2.2 := by
  obtain ⟨pc, ls, st, G⟩ := S
  simp only [o_zald] at h
  (repeat' split at h) <;> cases h <;> first | exact Nat.le_refl _ | exact Nat.le_succ _
theorem i_zald  {S : sx_S} {r : sx_R} (h : o_zald  S = some (.inl r)) : False := by
  obtain ⟨pc, ls, st, G⟩ := S
  simp only [o_zald] at h
  (repeat' split at h) <;> cases h
theorem n_aald {j : Nat} {S S' : sx_S} (h : o_aald j S = some (.inr S')) : S.2.2.2.2.2.2 ≤ S'.2.2.2.2.2.2 := by
  obtain ⟨pc, ls, st, G⟩ := S
  simp only [o_aald] at h
  (repeat' split at h) <;> first | (cases h; done) | (obtain ⟨q, -, hq⟩ := Option.bind_eq_some_iff.mp h; cases hq; exact Nat.le_refl _)
theorem i_aald {j : Nat} {S : sx_S} {r : sx_R} (h : o_aald j S = some (.inl r)) : False := by
  obtain ⟨pc, ls, st, G⟩ := S
  simp only [o_aald] at h
  (repeat' split at h) <;> first | (cases h; done) | (obtain ⟨q, -, hq⟩ := Option.bind_eq_some_iff.mp h; cases hq)
theorem n_iast  {S S' : sx_S} (h : o_iast  S = some (.inr S')) : S.2.2.2.2.2.2 ≤ S'.2.2.2.2.2.2 := by
  obtain ⟨pc, ls, st, G⟩ := S
  simp only [o_iast] at h
  (repeat' split at h) <;> cases h <;> first | exact Nat.le_refl _ | exact Nat.le_succ _
theorem i_iast  {S : sx_S} {r : sx_R} (h : o_iast  S = some (.inl r)) : False := by
  obtain ⟨pc, ls, st, G⟩ := S
  simp only [o_iast] at h
  (repeat' split at h) <;> cases h
theorem n_zast  {S S' : sx_S} (h : o_zast  S = some (.inr S')) : S.2.2.2.2.2.2 ≤ S'.2.2.2.2.2.2 := by
  obtain ⟨pc, ls, st, G⟩ := S
  simp only [o_zast] at h
  (repeat' split at h) <;> cases h <;> first | exact Nat.le_refl _ | exact Nat.le_succ _
theorem i_zast  {S : sx_S} {r : sx_R} (h : o_zast  S = some (.inl r)) : False := by
  obtain ⟨pc, ls, st, G⟩ := S
  simp only [o_zast] at h
  (repeat' split at h) <;> cases h
theorem n_aast {j ci : Nat} {S S' : sx_S} (h : o_aast j ci S = some (.inr S')) : S.2.2.2.2.2.2 ≤ S'.2.2.2.2.2.2 := by
  obtain ⟨pc, ls, st, G⟩ := S
  simp only [o_aast] at h
  (repeat' split at h) <;> cases h <;> first | exact Nat.le_refl _ | exact Nat.le_succ _
theorem i_aast {j ci : Nat} {S : sx_S} {r : sx_R} (h : o_aast j ci S = some (.inl r)) : False := by
  obtain ⟨pc, ls, st, G⟩ := S
  simp only [o_aast] at h
  (repeat' split at h) <;> cases h
theorem n_new {ci : Nat} {S S' : sx_S} (h : o_new ci S = some (.inr S')) : S.2.2.2.2.2.2 ≤ S'.2.2.2.2.2.2 := by
  obtain ⟨pc, ls, st, G⟩ := S
  simp only [o_new] at h
  (repeat' split at h) <;> cases h <;> first | exact Nat.le_refl _ | exact Nat.le_succ _
theorem i_new {ci : Nat} {S : sx_S} {r : sx_R} (h : o_new ci S = some (.inl r)) : False := by
  obtain ⟨pc, ls, st, G⟩ := S
  simp only [o_new] at h
  (repeat' split at h) <;> cases h
theorem n_newa {j n : Nat} {S S' : sx_S} (h : o_newa j n S = some (.inr S')) : S.2.2.2.2.2.2 ≤ S'.2.2.2.2.2.2 := by
  obtain ⟨pc, ls, st, G⟩ := S
  simp only [o_newa] at h
  (repeat' split at h) <;> cases h <;> first | exact Nat.le_refl _ | exact Nat.le_succ _
theorem i_newa {j n : Nat} {S : sx_S} {r : sx_R} (h : o_newa j n S = some (.inl r)) : False := by
  obtain ⟨pc, ls, st, G⟩ := S
  simp only [o_newa] at h
  (repeat' split at h) <;> cases h
theorem n_if {c : Jvm.ClassFile.Cond} {t : Nat} {S S' : sx_S} (h : o_if c t S = some (.inr S')) : S.2.2.2.2.2.2 ≤ S'.2.2.2.2.2.2 := by
  obtain ⟨pc, ls, st, G⟩ := S
  simp only [o_if] at h
  split at h
  · cases c <;> dsimp only at h <;> split at h <;> cases h <;> exact Nat.le_refl _
  · cases h
theorem i_if {c : Jvm.ClassFile.Cond} {t : Nat} {S : sx_S} {r : sx_R} (h : o_if c t S = some (.inl r)) : False := by
  obtain ⟨pc, ls, st, G⟩ := S
  simp only [o_if] at h
  split at h
  · cases c <;> dsimp only at h <;> split at h <;> cases h
  · cases h
theorem n_icmp {c : Jvm.ClassFile.Cond} {t : Nat} {S S' : sx_S} (h : o_icmp c t S = some (.inr S')) : S.2.2.2.2.2.2 ≤ S'.2.2.2.2.2.2 := by
  obtain ⟨pc, ls, st, G⟩ := S
  simp only [o_icmp] at h
  split at h
  · cases c <;> dsimp only at h <;> split at h <;> cases h <;> exact Nat.le_refl _
  · cases h
theorem i_icmp {c : Jvm.ClassFile.Cond} {t : Nat} {S : sx_S} {r : sx_R} (h : o_icmp c t S = some (.inl r)) : False := by
  obtain ⟨pc, ls, st, G⟩ := S
  simp only [o_icmp] at h
  split at h
  · cases c <;> dsimp only at h <;> split at h <;> cases h
  · cases h
theorem n_goto {n t : Nat} {S S' : sx_S} (h : o_goto n t S = some (.inr S')) : S.2.2.2.2.2.2 ≤ S'.2.2.2.2.2.2 := by
  obtain ⟨pc, ls, st, G⟩ := S
  simp only [o_goto] at h
  (repeat' split at h) <;> cases h <;> first | exact Nat.le_refl _ | exact Nat.le_succ _
theorem i_goto {n t : Nat} {S : sx_S} {r : sx_R} (h : o_goto n t S = some (.inl r)) : False := by
  obtain ⟨pc, ls, st, G⟩ := S
  simp only [o_goto] at h
  (repeat' split at h) <;> cases h
theorem n_copy  {S S' : sx_S} (h : o_copy  S = some (.inr S')) : S.2.2.2.2.2.2 ≤ S'.2.2.2.2.2.2 := by
  obtain ⟨pc, ls, st, G⟩ := S
  simp only [o_copy] at h
  (repeat' split at h) <;> cases h <;> first | exact Nat.le_refl _ | exact Nat.le_succ _
theorem i_copy  {S : sx_S} {r : sx_R} (h : o_copy  S = some (.inl r)) : False := by
  obtain ⟨pc, ls, st, G⟩ := S
  simp only [o_copy] at h
  (repeat' split at h) <;> cases h
theorem n_obj {S S' : sx_S} (h : o_obj S = some (.inr S')) : S.2.2.2.2.2.2 ≤ S'.2.2.2.2.2.2 := by
  obtain ⟨pc, ls, st, G⟩ := S
  simp only [o_obj] at h
  split at h
  · rename_i r
    cases hb : Nat.ble r.length 4 <;> rw [hb] at h <;> cases h
    exact Nat.le_refl _
  · cases h
theorem i_obj {S : sx_S} {r : sx_R} (h : o_obj S = some (.inl r)) : False := by
  obtain ⟨pc, ls, st, G⟩ := S
  simp only [o_obj] at h
  split at h
  · rename_i q
    cases hb : Nat.ble q.length 4 <;> rw [hb] at h <;> cases h
  · cases h
theorem n_max {S S' : sx_S} (h : o_max S = some (.inr S')) : S.2.2.2.2.2.2 ≤ S'.2.2.2.2.2.2 := by
  obtain ⟨pc, ls, st, G⟩ := S
  simp only [o_max] at h
  split at h
  · rename_i r
    cases hb : Nat.ble r.length 4 <;> rw [hb] at h <;> cases h
    exact Nat.le_refl _
  · cases h
theorem i_max {S : sx_S} {r : sx_R} (h : o_max S = some (.inl r)) : False := by
  obtain ⟨pc, ls, st, G⟩ := S
  simp only [o_max] at h
  split at h
  · rename_i q
    cases hb : Nat.ble q.length 4 <;> rw [hb] at h <;> cases h
  · cases h
theorem n_min {S S' : sx_S} (h : o_min S = some (.inr S')) : S.2.2.2.2.2.2 ≤ S'.2.2.2.2.2.2 := by
  obtain ⟨pc, ls, st, G⟩ := S
  simp only [o_min] at h
  split at h
  · rename_i r
    cases hb : Nat.ble r.length 4 <;> rw [hb] at h <;> cases h
    exact Nat.le_refl _
  · cases h
theorem i_min {S : sx_S} {r : sx_R} (h : o_min S = some (.inl r)) : False := by
  obtain ⟨pc, ls, st, G⟩ := S
  simp only [o_min] at h
  split at h
  · rename_i q
    cases hb : Nat.ble q.length 4 <;> rw [hb] at h <;> cases h
  · cases h
theorem n_sw {d : Nat} {sw : List (Int32 × Nat)} {S S' : sx_S} (h : o_sw d sw S = some (.inr S')) : S.2.2.2.2.2.2 ≤ S'.2.2.2.2.2.2 := by
  obtain ⟨pc, ls, st, G⟩ := S
  simp only [o_sw] at h
  split at h
  · obtain ⟨t, rfl, -⟩ := swk_spec h
    exact Nat.le_refl _
  · cases h
theorem i_swk {S : sx_S} {r : List Value} {d : Nat} {x : Int32} {z : sx_R} : ∀ {l : List (Int32 × Nat)}, o_swk S r d x l = some (.inl z) → False
  | [], h => by cases h
  | (k, t) :: l, h => by
    simp only [o_swk] at h
    split at h
    · cases h
    · exact i_swk h
theorem i_sw {d : Nat} {sw : List (Int32 × Nat)} {S : sx_S} {r : sx_R} (h : o_sw d sw S = some (.inl r)) : False := by
  obtain ⟨pc, ls, st, G⟩ := S
  simp only [o_sw] at h
  split at h
  · exact i_swk h
  · cases h
theorem n_call {d : sx_M} {f : sx_F} (hok : sx_ok d f) {S S' : sx_S} (h : o_call (d, f) S = some (.inr S')) : S.2.2.2.2.2.2 ≤ S'.2.2.2.2.2.2 := by
  obtain ⟨pc, ls, st, G⟩ := S
  simp only [o_call] at h
  split at h
  · rename_i as rest _
    cases hb : Nat.ble rest.length 4 with
    | false => rw [hb] at h; cases h
    | true =>
      rw [hb, cond_true] at h
      obtain ⟨v, G', hf, rfl⟩ := back_spec h
      exact (hok.2 _ _ _ _ hf).1
  · cases h
theorem n_callI {d : sx_M} {f : sx_F} (hok : sx_ok d f) {S S' : sx_S} (h : o_callI (d, f) S = some (.inr S')) : S.2.2.2.2.2.2 ≤ S'.2.2.2.2.2.2 := by
  obtain ⟨pc, ls, st, G⟩ := S
  simp only [o_callI] at h
  split at h
  · rename_i o as rest _
    cases hb : Nat.ble rest.length 4 with
    | false => rw [hb] at h; cases h
    | true =>
      rw [hb, cond_true] at h
      obtain ⟨v, G', hf, rfl⟩ := back_spec h
      exact (hok.2 _ _ _ _ hf).1
  · cases h
theorem n_callV {d : sx_M} {f : sx_F} (hok : sx_ok d f) {ci : Nat} {S S' : sx_S} (h : o_callV (d, f) ci S = some (.inr S')) : S.2.2.2.2.2.2 ≤ S'.2.2.2.2.2.2 := by
  obtain ⟨pc, ls, st, G⟩ := S
  simp only [o_callV] at h
  split at h
  · rename_i o as rest _
    cases hb : Nat.ble rest.length 4 with
    | false => rw [hb] at h; cases h
    | true =>
      rw [hb, cond_true] at h
      split at h
      · obtain ⟨v, G', hf, rfl⟩ := back_spec h
        exact (hok.2 _ _ _ _ hf).1
      · cases h
  · cases h
theorem i_call {q : sx_M × sx_F} {S : sx_S} {r : sx_R} (h : o_call q S = some (.inl r)) : False := by
  obtain ⟨pc, ls, st, G⟩ := S
  simp only [o_call] at h
  split at h
  · rename_i as rest _
    cases hb : Nat.ble rest.length 4 with
    | false => rw [hb] at h; cases h
    | true => rw [hb, cond_true] at h; exact back_no h
  · cases h
theorem i_callI {q : sx_M × sx_F} {S : sx_S} {r : sx_R} (h : o_callI q S = some (.inl r)) : False := by
  obtain ⟨pc, ls, st, G⟩ := S
  simp only [o_callI] at h
  split at h
  · rename_i o as rest _
    cases hb : Nat.ble rest.length 4 with
    | false => rw [hb] at h; cases h
    | true => rw [hb, cond_true] at h; exact back_no h
  · cases h
theorem i_callV {q : sx_M × sx_F} {ci : Nat} {S : sx_S} {r : sx_R} (h : o_callV q ci S = some (.inl r)) : False := by
  obtain ⟨pc, ls, st, G⟩ := S
  simp only [o_callV] at h
  split at h
  · rename_i o as rest _
    cases hb : Nat.ble rest.length 4 with
    | false => rw [hb] at h; cases h
    | true =>
      rw [hb, cond_true] at h
      split at h
      · exact back_no h
      · cases h
  · cases h
theorem n_inv {cs : List (sx_M × sx_F)} (hcs : ∀ q ∈ cs, sx_ok q.1 q.2) {a : Nat} {k : sx_M × sx_F → sx_S → sx_O} (hk : ∀ {d : sx_M} {f : sx_F}, sx_ok d f → ∀ {S S' : sx_S}, k (d, f) S = some (.inr S') → S.2.2.2.2.2.2 ≤ S'.2.2.2.2.2.2) {S S' : sx_S} (h : o_inv cs a k S = some (.inr S')) : S.2.2.2.2.2.2 ≤ S'.2.2.2.2.2.2 := by
  simp only [o_inv] at h
  split at h
  · rename_i d hd
    obtain ⟨d, f⟩ := d
    exact hk (hcs (d, f) (List.mem_of_getElem? hd)) h
  · cases h
theorem i_inv {cs : List (sx_M × sx_F)} {a : Nat} {k : sx_M × sx_F → sx_S → sx_O} (hk : ∀ {q : sx_M × sx_F} {S : sx_S} {r : sx_R}, k q S = some (.inl r) → False) {S : sx_S} {r : sx_R} (h : o_inv cs a k S = some (.inl r)) : False := by
  simp only [o_inv] at h
  split at h
  · exact hk h
  · cases h
theorem n_stat {cs : List (sx_M × sx_F)} (hcs : ∀ q ∈ cs, sx_ok q.1 q.2) {a b : Nat} {S S' : sx_S} (h : o_stat cs a b S = some (.inr S')) : S.2.2.2.2.2.2 ≤ S'.2.2.2.2.2.2 := by
  match b, h with
  | 0, h => exact n_inv hcs (fun hok _ _ h => n_call hok h) h
  | 1, h => exact n_max h
  | 2, h => exact n_min h
  | 3, h => exact n_copy h
  | k + 4, h => cases h
theorem i_stat {cs : List (sx_M × sx_F)} {a b : Nat} {S : sx_S} {r : sx_R} (h : o_stat cs a b S = some (.inl r)) : False := by
  match b, h with
  | 0, h => exact i_inv (k := o_call) (fun h => i_call h) h
  | 1, h => exact i_max h
  | 2, h => exact i_min h
  | 3, h => exact i_copy h
  | k + 4, h => cases h
theorem n_spec {cs : List (sx_M × sx_F)} (hcs : ∀ q ∈ cs, sx_ok q.1 q.2) {a b : Nat} {S S' : sx_S} (h : o_spec cs a b S = some (.inr S')) : S.2.2.2.2.2.2 ≤ S'.2.2.2.2.2.2 := by
  match b, h with
  | 0, h => exact n_inv hcs (fun hok _ _ h => n_callI hok h) h
  | k + 1, h => exact n_obj h
theorem i_spec {cs : List (sx_M × sx_F)} {a b : Nat} {S : sx_S} {r : sx_R} (h : o_spec cs a b S = some (.inl r)) : False := by
  match b, h with
  | 0, h => exact i_inv (k := o_callI) (fun h => i_callI h) h
  | k + 1, h => exact i_obj h
theorem sx_up {P : sx_P} (hcs : ∀ q ∈ P.2.1, sx_ok q.1 q.2) {en : sx_E} {S S' : sx_S} (h : sx_do P.1 P.2.1 P.2.2.1 P.2.2.2.1 P.2.2.2.2.1 en S = some (.inr S')) : S.2.2.2.2.2.2 ≤ S'.2.2.2.2.2.2 := by
  obtain ⟨i, ea, eb, sw⟩ := en
  cases i with
  | iconst z => exact n_ci h
  | bipush z => exact n_ci h
  | sipush z => exact n_ci h
  | ldc z => exact n_co h
  | ldc_w z => exact n_co h
  | ldc2_w z => exact n_co h
  | lconst z => exact n_co h
  | iload z => exact n_ldi h
  | iload_n z => exact n_ldi h
  | aload z => exact n_lda h
  | aload_n z => exact n_lda h
  | istore z => exact n_sti h
  | istore_n z => exact n_sti h
  | astore z => exact n_sta h
  | astore_n z => exact n_sta h
  | iinc z y => exact n_inc h
  | iadd => exact n_bi h
  | isub => exact n_bi h
  | imul => exact n_bi h
  | iand => exact n_bi h
  | ior => exact n_bi h
  | ixor => exact n_bi h
  | ishl => exact n_bi h
  | ishr => exact n_bi h
  | iushr => exact n_bi h
  | idiv => exact n_dv h
  | irem => exact n_dv h
  | ladd => exact n_ladd h
  | lcmp => exact n_lcmp h
  | dup => exact n_dup h
  | dup2 => exact n_dup2 h
  | pop => exact n_pop h
  | pop2 => exact n_pop2 h
  | getfield z => exact n_get h
  | putfield z => exact n_put h
  | iaload => exact n_iald h
  | baload => exact n_zald h
  | aaload => exact n_aald h
  | iastore => exact n_iast h
  | bastore => exact n_zast h
  | aastore => exact n_aast h
  | arraylength => exact n_alen h
  | new z => exact n_new h
  | newarray z => exact n_newa h
  | anewarray z => exact n_newa h
  | ifCond z y => exact n_if h
  | if_icmp z y => exact n_icmp h
  | goto z => exact n_goto h
  | tableswitch z y x w => exact n_sw h
  | lookupswitch z y => exact n_sw h
  | ireturn => exact absurd h (fun h => iret_no h)
  | lreturn => exact absurd h (fun h => lret_no h)
  | return_ => exact absurd h (fun h => vret_no h)
  | invokevirtual z => exact n_inv hcs (fun hok _ _ h => n_callV hok h) h
  | invokestatic z => exact n_stat hcs h
  | invokespecial z => exact n_spec hcs h
  | _ => cases h
theorem sx_fin {ws : List Cond} {P : sx_P} {own : String} {ini : Bool} {nL fr lo : Nat} {ms : List sx_M} {cc : ByteArray} {en : sx_E} {S : sx_S} {r : sx_R} (hk : sx_ck ws own ini nL fr lo ms P.2.2.2.1 P.2.2.2.2.1 cc S.1 en = true) (h : sx_do P.1 P.2.1 P.2.2.1 P.2.2.2.1 P.2.2.2.2.1 en S = some (.inl r)) : S.2.2.1 = r.1.toList ∧ r.2 = S.2.2.2 ∧ sx_rt cc P.1 r.1 S.1 := by
  obtain ⟨i, ea, eb, sw⟩ := en
  cases i with
  | iconst z => exact absurd h (fun h => i_ci h)
  | bipush z => exact absurd h (fun h => i_ci h)
  | sipush z => exact absurd h (fun h => i_ci h)
  | ldc z => exact absurd h (fun h => i_co h)
  | ldc_w z => exact absurd h (fun h => i_co h)
  | ldc2_w z => exact absurd h (fun h => i_co h)
  | lconst z => exact absurd h (fun h => i_co h)
  | iload z => exact absurd h (fun h => i_ldi h)
  | iload_n z => exact absurd h (fun h => i_ldi h)
  | aload z => exact absurd h (fun h => i_lda h)
  | aload_n z => exact absurd h (fun h => i_lda h)
  | istore z => exact absurd h (fun h => i_sti h)
  | istore_n z => exact absurd h (fun h => i_sti h)
  | astore z => exact absurd h (fun h => i_sta h)
  | astore_n z => exact absurd h (fun h => i_sta h)
  | iinc z y => exact absurd h (fun h => i_inc h)
  | iadd => exact absurd h (fun h => i_bi h)
  | isub => exact absurd h (fun h => i_bi h)
  | imul => exact absurd h (fun h => i_bi h)
  | iand => exact absurd h (fun h => i_bi h)
  | ior => exact absurd h (fun h => i_bi h)
  | ixor => exact absurd h (fun h => i_bi h)
  | ishl => exact absurd h (fun h => i_bi h)
  | ishr => exact absurd h (fun h => i_bi h)
  | iushr => exact absurd h (fun h => i_bi h)
  | idiv => exact absurd h (fun h => i_dv h)
  | irem => exact absurd h (fun h => i_dv h)
  | ladd => exact absurd h (fun h => i_ladd h)
  | lcmp => exact absurd h (fun h => i_lcmp h)
  | dup => exact absurd h (fun h => i_dup h)
  | dup2 => exact absurd h (fun h => i_dup2 h)
  | pop => exact absurd h (fun h => i_pop h)
  | pop2 => exact absurd h (fun h => i_pop2 h)
  | getfield z => exact absurd h (fun h => i_get h)
  | putfield z => exact absurd h (fun h => i_put h)
  | iaload => exact absurd h (fun h => i_iald h)
  | baload => exact absurd h (fun h => i_zald h)
  | aaload => exact absurd h (fun h => i_aald h)
  | iastore => exact absurd h (fun h => i_iast h)
  | bastore => exact absurd h (fun h => i_zast h)
  | aastore => exact absurd h (fun h => i_aast h)
  | arraylength => exact absurd h (fun h => i_alen h)
  | new z => exact absurd h (fun h => i_new h)
  | newarray z => exact absurd h (fun h => i_newa h)
  | anewarray z => exact absurd h (fun h => i_newa h)
  | ifCond z y => exact absurd h (fun h => i_if h)
  | if_icmp z y => exact absurd h (fun h => i_icmp h)
  | goto z => exact absurd h (fun h => i_goto h)
  | tableswitch z y x w => exact absurd h (fun h => i_sw h)
  | lookupswitch z y => exact absurd h (fun h => i_sw h)
  | ireturn => exact iret_spec h (ck_dD hk)
  | lreturn => exact lret_spec h (ck_dD hk)
  | return_ => exact vret_spec h (ck_dD hk)
  | invokevirtual z => exact absurd h (fun h => i_inv (k := fun d => o_callV d eb) (fun h => i_callV h) h)
  | invokestatic z => exact absurd h (fun h => i_stat h)
  | invokespecial z => exact absurd h (fun h => i_spec h)
  | _ => cases h
/-- all entries of a table are checked -/
def sx_all (hs : Nat → List Nat) (own : String) (ini : Bool) (nL fr lo : Nat) (cc : ByteArray) (P : sx_P) (len : Nat) : Bool := (List.range len).all (fun pc => match P.2.2.2.2.2 pc with
  | some en => sx_ck (wz (hs pc)) own ini nL fr lo (P.2.1.map Prod.fst) P.2.2.2.1 P.2.2.2.2.1 cc pc en
  | none => true)
def sx_good (own : String) (ini : Bool) (nL fr lo : Nat) (cc : ByteArray) (P : sx_P) : Prop := ∀ (pc : Nat) (en : sx_E), P.2.2.2.2.2 pc = some en → ∃ ws, sx_ws ws ∧ sx_ck ws own ini nL fr lo (P.2.1.map Prod.fst) P.2.2.2.1 P.2.2.2.2.1 cc pc en = true
theorem sx_runUp {P : sx_P} (hcs : ∀ q ∈ P.2.1, sx_ok q.1 q.2) {own : String} {ini : Bool} {nL fr lo : Nat} {cc : ByteArray} (hg : sx_good own ini nL fr lo cc P) : ∀ {n : Nat} {S : sx_S} {r : sx_R}, sx_run P n S = some r → S.2.2.2.2.2.2 ≤ r.2.2.2.2
  | 0, _, _, h => by cases h
  | n + 1, S, r, h => by
    simp only [sx_run, sx_one] at h
    cases ht : P.2.2.2.2.2 S.1 with
    | none => rw [ht] at h; cases h
    | some en =>
      rw [ht] at h
      dsimp only at h
      cases ho : sx_do P.1 P.2.1 P.2.2.1 P.2.2.2.1 P.2.2.2.2.1 en S with
      | none => rw [ho] at h; cases h
      | some z =>
        rw [ho] at h
        cases z with
        | inl y =>
          cases h
          obtain ⟨ws, -, hk⟩ := hg _ _ ht
          rw [(sx_fin hk ho).2.1]
          exact Nat.le_refl _
        | inr S' => exact Nat.le_trans (sx_up hcs ho) (sx_runUp hcs hg h)
section SXG
variable {p : Program} {l : Launch} {e : Env} {R : Room} {s : State} {m : MethodId} {args : Array Value} {below : List Frame} {meth : Method} {c : Code} {Q : State → Prop}
variable {D : va_G} {cK : Nat → ClassId} {ba b n0 nL : Nat} {cc : ByteArray} {own : String}
/-- a run of the picture is a run of the machine -/
theorem sx_walk (hx : p.tables.exec = Jvm.exec) (hb : c.code = cc) (hml : c.maxLocals = nL) (hown : s.vm.findClass own = some m.cls) (hT : sx_T s) (hK : va_K D hp_cl (hp_tys cK) s) (hs0 : s.heap.size = ba + n0) {P : sx_P} {r : sx_R} (hrm : sx_rm R n0 r.2.2.2.2) (hsc : ∀ L xs, P.2.2.1 = some (L, xs) → va_X b L xs s s.heap ∧ b < s.heap.size ∧ b < ba) (hcs : ∀ q ∈ P.2.1, sx_ok q.1 q.2) {ini : Bool} (hini : ini = true → meth.name = "<init>") (hg : sx_good own ini nL R.frames R.locals cc P)
    (hret : ∀ (H : Heap) (locs : List Loc) (cells slots pc : Nat) (lsA : Array Slot), sx_H D cK ba s.heap n0 r.2 H locs cells slots → sx_rt cc P.1 r.1 pc → W p l e R s m args below meth c H locs cells slots Q (F0 m pc lsA (r.1.toList.map (cv ba b)))) :
    ∀ (n : Nat) (S : sx_S), sx_run P n S = some r → sx_G p l e R s m args below meth c Q D cK ba b n0 nL s.heap S
  | 0, _, h => by cases h
  | n + 1, S, h => by
    have h0 := h
    simp only [sx_run, sx_one] at h
    cases ht : P.2.2.2.2.2 S.1 with
    | none => rw [ht] at h; cases h
    | some en =>
      rw [ht] at h
      dsimp only at h
      cases ho : sx_do P.1 P.2.1 P.2.2.1 P.2.2.2.1 P.2.2.2.2.1 en S with
      | none => rw [ho] at h; cases h
      | some z =>
        rw [ho] at h
        cases z with
        | inl y =>
          cases h
          obtain ⟨ws, -, hk⟩ := hg _ _ ht
          obtain ⟨h1, h2, h3⟩ := sx_fin hk ho
          intro H locs cells slots lsA hH hL
          rw [h1]
          rw [← h2] at hH
          exact hret H locs cells slots S.1 lsA hH h3
        | inr S' =>
          have hE := sx_runUp hcs hg h
          obtain ⟨ws, hw, hk⟩ := hg _ _ ht
          exact sx_step hw hx hb hml hown hT hK hs0 hrm hsc hcs hini hk ho hE (sx_walk hx hb hml hown hT hK hs0 hrm hsc hcs hini hg hret n S' h)
end SXG
def sx_as : Nat → List Value → List (Nat × Value)
  | _, [] => []
  | i, v :: r => (i, v) :: sx_as (i + 1) r
def sx_c1 : List Value → Bool
  | [] => true
  | v :: r => Nat.beq v.category 1 && sx_c1 r
/-- a method's function: its run from the entry -/
noncomputable def sx_fn (P : sx_P) (nL : Nat) : sx_F := fun As G => bif sx_c1 As && Nat.ble As.length nL then sx_ev P (0, sx_as 0 As, [], G) else none
theorem sx_c1C : ∀ {As : List Value}, sx_c1 As = true → ∀ v ∈ As, v.category = 1
  | [], _, _, hv => by cases hv
  | v :: r, h, w, hw => by
    simp only [sx_c1, Bool.and_eq_true] at h
    rcases List.mem_cons.mp hw with rfl | hw
    · exact Nat.eq_of_beq_eq_true h.1
    · exact sx_c1C h.2 w hw
theorem sx_asL (ba b : Nat) : ∀ {As : List Value} (i : Nat), (∀ v ∈ As, v.category = 1) → lv_args i (As.map (cv ba b)) = sx_m ba b (sx_as i As)
  | [], _, _ => rfl
  | v :: r, i, h => by
    simp only [List.map_cons, lv_args, sx_as, sx_m, cv_cat, h v List.mem_cons_self, if_neg (show ¬ (1 = 2) by decide)]
    rw [sx_asL ba b (i + 1) (fun w hw => h w (List.mem_cons_of_mem _ hw))]
    rfl
theorem sx_asM : ∀ {As : List Value} (i : Nat) {q : Nat × Value}, q ∈ sx_as i As → q.2 ∈ As
  | [], _, _, h => by cases h
  | v :: r, i, q, h => by
    rcases List.mem_cons.mp h with rfl | h
    · exact List.mem_cons_self
    · exact List.mem_cons_of_mem _ (sx_asM (i + 1) h)
theorem sx_slN (ba b : Nat) : ∀ {As : List Value}, (∀ v ∈ As, v.category = 1) → (lg_sl (As.map (cv ba b))).length = As.length
  | [], _ => rfl
  | v :: r, h => by
    have h1 := sx_slN ba b (As := r) (fun w hw => h w (List.mem_cons_of_mem _ hw))
    have h2 : (cv ba b v).category = 1 := by rw [cv_cat]; exact h v List.mem_cons_self
    simp only [lg_sl, List.map_cons, List.flatMap_cons, List.length_append, List.length_cons] at h1 ⊢
    rw [h1, h2]
    simp
    omega
/-- THE SOUNDNESS of a method: its table is checked, its callees are sound -/
theorem sx_sound {y : MethodName} {cc : ByteArray} {nL fr lo na : Nat} {rt : Option FieldType} {P : sx_P} {ini : Bool} (hpl : plainName y.cls = true) (hrt : P.1 = rt) (hsc : P.2.2.1 = none) (hini : ini = true → y.name = "<init>") (hcd : Cond.code y cc nL rt ∈ lw_tbl) (hcs : ∀ q ∈ P.2.1, sx_ok q.1 q.2) (hg : sx_good y.cls ini nL fr lo cc P) : sx_ok (y, cc, nL, rt, fr, lo, na) (sx_fn P nL) := by
  refine ⟨hcd, ?_⟩
  intro As G v G' hf
  subst hrt
  simp only [sx_fn] at hf
  cases hb1 : (sx_c1 As && Nat.ble As.length nL) with
  | false => rw [hb1] at hf; cases hf
  | true =>
    rw [hb1, cond_true] at hf
    simp only [Bool.and_eq_true] at hb1
    obtain ⟨n, hn⟩ := (sx_evI (v, G')).mp hf
    have hc1 := sx_c1C hb1.1
    refine ⟨sx_runUp hcs hg hn, fun l D cK ba b => ?_⟩
    refine Met.ofW (cc := cc) (maxL := nL) (ret := P.1) hpl rfl ?_
    intro p e s m args below meth c s₁ B hml hv
    obtain ⟨rfl, hsz, hP, hK, hT⟩ := hv
    have hown : s.vm.findClass y.cls = some m.cls := findClass_of_methodNamed B.named
    have hlocks := B.notSynchronized
    have hr := B.returns
    have hin : meth.name = y.name := (name_of_methodNamed B.named B.method).1
    have hl := lv_entry (As.map (cv ba b)) (n := nL) (by rw [sx_slN ba b hc1]; exact Nat.le_of_ble_eq_true hb1.2)
    rw [lg_entry_eq]
    generalize (lg_sl (As.map (cv ba b)) ++ List.replicate (nL - (lg_sl (As.map (cv ba b))).length) Slot.unset).toArray = ls at hl ⊢
    rw [sx_asL ba b 0 hc1] at hl
    have hle := sx_runUp hcs hg hn
    have htl := hp_totLe hle
    have key := sx_walk (Q := MQ below (sx_Q D cK ba b v G') (As.map (cv ba b)).toArray s (G'.2.2.2 - G.2.2.2) (hp_tot G'.2.2.2 - hp_tot G.2.2.2) (fun q => ba ≤ q)) (b := b) (l := l) (e := e) (args := (As.map (cv ba b)).toArray) (below := below) (meth := meth) (R := { frames := fr, cells := G'.2.2.2 - G.2.2.2, slots := hp_tot G'.2.2.2 - hp_tot G.2.2.2, locals := lo }) B.exec B.bytes hml hown hT hK hsz (P := P) (r := (v, G')) ⟨by show G'.2.2.2 ≤ G.2.2.2 + (G'.2.2.2 - G.2.2.2); omega, by show hp_tot G'.2.2.2 ≤ hp_tot G.2.2.2 + (hp_tot G'.2.2.2 - hp_tot G.2.2.2); omega⟩ (fun L xs h => by rw [hsc] at h; cases h) hcs (fun h => by rw [hin]; exact hini h) hg ?_ n (0, sx_as 0 As, [], G) hn
    · exact key s.heap [] 0 0 ls ⟨hP, va_S.rf, by simp, by simp⟩ ⟨hl, fun q hq => hc1 _ (sx_asM 0 hq)⟩
    · intro H locs cells slots pc lsA hH hrt
      refine sx_size hsz hH (fun hz => ?_)
      obtain ⟨g1, g2, g3, g4⟩ := hH
      have e1 : G'.2.2.2 - G.2.2.2 = cells := by dsimp only at g3; omega
      have e2 : hp_tot G'.2.2.2 - hp_tot G.2.2.2 = slots := by dsimp only at g4; omega
      rw [e1, e2]
      have hq : ∀ t : State, t.heap = H → sx_Q D cK ba b v G' (As.map (cv ba b)).toArray s (.returned (v.map (cv ba b))) t := fun t ht => ⟨rfl, by rw [ht]; exact hz, by rw [ht]; exact g1, fun q hq => by rw [ht]; exact g2.2.1 q (by omega) (Nat.not_le.mpr hq)⟩
      rcases hrt with ⟨x, hv, hd, hty⟩ | ⟨x, hv, hd, hty⟩ | ⟨hv, hd, hty⟩
      · dsimp only at hv
        subst hv
        rcases hty with hty | ⟨hty, hx⟩
        · exact W.iret B.exec B.bytes (by rw [hr]; exact hty) (fun t ht _ => hq t ht) g2.2.2 hd
        · exact W.zret B.exec B.bytes (ty := .boolean) (by rw [hr]; exact hty) (by rcases hx with rfl | rfl <;> rfl) (fun t ht _ => hq t ht) g2.2.2 hd
      · dsimp only at hv
        subst hv
        exact W.lret B.exec B.bytes (by rw [hr]; exact hty) (fun t ht _ => hq t ht) g2.2.2 hd
      · dsimp only at hv
        subst hv
        exact W.vret B.exec B.bytes (by rw [hr]; exact hty) (fun t ht _ => hq t ht) g2.2.2 hd
theorem sx_goodOf {hs : Nat → List Nat} {own : String} {ini : Bool} {nL fr lo len : Nat} {cc : ByteArray} {P : sx_P} (h : sx_all hs own ini nL fr lo cc P len = true) (hn : ∀ pc, Nat.blt pc len = false → P.2.2.2.2.2 pc = none) : sx_good own ini nL fr lo cc P := by
  intro pc en hen
  cases hb : Nat.blt pc len with
  | false => rw [hn pc hb] at hen; cases hen
  | true =>
    have hlt : pc < len := Nat.le_of_ble_eq_true hb
    have h1 := List.all_eq_true.mp h pc (List.mem_range.mpr hlt)
    rw [hen] at h1
    exact ⟨wz (hs pc), wz_ok _, h1⟩
def sx_f (hs : Nat → List Nat) (own : String) (ini : Bool) (nL fr lo : Nat) (cc : ByteArray) (P : sx_P) (pc : Nat) : Bool := match P.2.2.2.2.2 pc with
  | some en => sx_ck (wz (hs pc)) own ini nL fr lo (P.2.1.map Prod.fst) P.2.2.2.1 P.2.2.2.2.1 cc pc en
  | none => true
def sx_seg (a n : Nat) (f : Nat → Bool) : Bool := (List.range n).all (fun i => f (a + i))
theorem sx_segAt {a n : Nat} {f : Nat → Bool} (h : sx_seg a n f = true) {pc : Nat} (h1 : a ≤ pc) (h2 : pc < a + n) : f pc = true := by
  have := List.all_eq_true.mp h (pc - a) (List.mem_range.mpr (by omega))
  rw [show a + (pc - a) = pc by omega] at this
  exact this
theorem sx_goodOfF {hs : Nat → List Nat} {own : String} {ini : Bool} {nL fr lo len : Nat} {cc : ByteArray} {P : sx_P} (h : ∀ pc, pc < len → sx_f hs own ini nL fr lo cc P pc = true) (hn : ∀ pc, Nat.blt pc len = false → P.2.2.2.2.2 pc = none) : sx_good own ini nL fr lo cc P := by
  intro pc en hen
  cases hb : Nat.blt pc len with
  | false => rw [hn pc hb] at hen; cases hen
  | true =>
    have h1 := h pc (Nat.le_of_ble_eq_true hb)
    simp only [sx_f] at h1
    rw [hen] at h1
    exact ⟨wz (hs pc), wz_ok _, h1⟩
