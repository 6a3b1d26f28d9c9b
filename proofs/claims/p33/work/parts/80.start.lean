/-! the start, and a call on both sides -/
def S0 : pS := fun r k => if r = 0 ∧ k = 2 then 2 else 0
theorem Ok_0 : Ok S0 := by
  refine ⟨⟨by decide, fun k hk => absurd hk (Nat.not_lt_zero k)⟩, ⟨by decide, by decide, fun f hf => absurd hf (Nat.not_lt_zero f)⟩, ?_, ⟨by decide, fun i hi => absurd hi (Nat.not_lt_zero i)⟩, fun i hi => ⟨?_, fun c => ?_⟩, by decide⟩
  · have z : ∀ k, S0 5 k = 0 := fun k => by unfold S0; rw [if_neg (by omega)]
    refine ⟨by rw [z]; omega, by rw [z]; omega, by rw [z]; exact Nat.pow_pos (by omega), fun f hf => by rw [z, z]; omega, fun f hf => by rw [z, z]; omega, by rw [z]; omega, fun k hk => by rw [z] at hk; omega, fun i j hi => by rw [z] at hi; omega, fun j hj => by rw [z]; omega⟩
  · have z : S0 6 i = 0 := by unfold S0; rw [if_neg (by omega)]
    rw [z]; omega
  · have z : S0 6 i = 0 := by unfold S0; rw [if_neg (by omega)]
    rw [z] at c; omega
theorem mI_z {c k : Nat} (h : ¬ ((c = 3 ∨ c = 7 ∨ c = 101) ∧ k = 1)) : mI c k = 0 := by
  unfold mI hw
  by_cases a : c = 101
  · rw [if_pos a, if_neg (by omega), if_neg (by omega), if_neg (by omega)]
  · rw [if_neg a]
    by_cases b : c = 7
    · rw [if_pos b, if_neg (by omega), if_neg (by omega)]
    · rw [if_neg b]
      by_cases d : c = 3
      · rw [if_pos d, if_neg (by omega)]
      · rw [if_neg d]
theorem Cl_0 : Cl mI (fun _ _ => 0) pm0 S0 0 := by
  refine ⟨⟨rfl, fun k hk => absurd hk (Nat.not_lt_zero k)⟩, ⟨rfl, rfl, fun f hf => absurd hf (Nat.not_lt_zero f)⟩, ⟨⟨rfl, rfl, rfl, rfl⟩, fun f hf => ?_, fun k hk => absurd hk (Nat.not_lt_zero k)⟩, ⟨rfl, fun i => 24 + 5 * i, fun i hi => ⟨?_, i, hi, rfl⟩, fun i j _ _ e => ?_, fun i hi => absurd hi (Nat.not_lt_zero i)⟩, fun i hi => ⟨?_, fun c => ?_⟩, ⟨rfl, fun i hi => ?_⟩, rfl⟩
  · have z : ∀ k, S0 5 k = 0 := fun k => by unfold S0; rw [if_neg (by omega)]
    rw [z, z, z, mI_z (by omega), mI_z (by omega), mI_z (by omega)]; exact ⟨rfl, rfl, rfl⟩
  · unfold pm0
    rw [show Nat.ble i 9 = true from Nat.ble_eq.mpr (by omega)]; rfl
  · have e' : 24 + 5 * i = 24 + 5 * j := e
    omega
  · have z : S0 6 i = 0 := by unfold S0; rw [if_neg (by omega)]
    rw [z, mI_z (by omega)]; rfl
  · have z : S0 6 i = 0 := by unfold S0; rw [if_neg (by omega)]
    rw [z] at c; omega
  · rw [mI_z (by omega), mI_z (by omega)]
    exact ⟨Or.inl rfl, 0, by omega, rfl⟩
theorem Ml_0 : Ml mI (fun _ _ => 0) S0 0 := by
  refine ⟨⟨rfl, fun k hk => absurd hk (Nat.not_lt_zero k)⟩, ⟨rfl, rfl, fun f hf => absurd hf (Nat.not_lt_zero f)⟩, fun j hj => ?_, ⟨rfl, fun i hi => absurd hi (Nat.not_lt_zero i)⟩, fun i hi => ⟨?_, fun c => ?_⟩, rfl, rfl⟩
  · have z : S0 5 j = 0 := by unfold S0; rw [if_neg (by omega)]
    rw [z, mI_z (by omega)]; rfl
  · have z : S0 6 i = 0 := by unfold S0; rw [if_neg (by omega)]
    rw [z, mI_z (by omega)]; rfl
  · have z : S0 6 i = 0 := by unfold S0; rw [if_neg (by omega)]
    rw [z] at c; omega
def Lw (r : Option sx_R) : Prop := ∃ (m : hM) (l : Nat → Nat → Int64) (p : Nat → Option Nat), r = some (some (.int 1), hG m l p)
/-- the two sides are as one table -/
def Rel (m : hM) (l : Nat → Nat → Int64) (p : Nat → Option Nat) : Prop := ∃ S T, Ok S ∧ Cl m l p S T ∧ Ml m l S T
theorem lw_B {f5 f6 : hp_G → Option sx_R} {m : hM} {l : Nat → Nat → Int64} {p : Nat → Option Nat} {S : pS} {T : Int64} (hb : ∃ v S' T', Both f5 f6 S T v S' T') (kc : Cl m l p S T) (km : Ml m l S T) : ∃ v m1 l1 p1 m2 l2, f5 (hG m l p) = some (some (.int v), hG m1 l1 p1) ∧ f6 (hG m1 l1 p1) = some (some (.int v), hG m2 l2 p1) ∧ Rel m2 l2 p1 := by
  obtain ⟨v, S', T', hc, hm, ok'⟩ := hb
  obtain ⟨m1, l1, p1, e1, k1, f1, g1⟩ := hc m l p kc
  obtain ⟨m2, l2, e2, k2, f2, g2⟩ := hm m1 l1 p1 (Ml_fr f1 g1 km)
  exact ⟨v, m1, l1, p1, m2, l2, e1, e2, S', T', ok', Cl_fr f2 g2 k1, k2⟩
theorem lw_W {m : hM} {l : Nat → Nat → Int64} {p : Nat → Option Nat} {S : pS} {T : Int64} (ok : Ok S) (kc : Cl m l p S T) (km : Ml m l S T) : ∃ v v' m1 l1 p1 m2 l2, f_X5_wilts [.ref 0] (hG m l p) = some (some (.int v), hG m1 l1 p1) ∧ f_X6_wilts [.ref 99] (hG m1 l1 p1) = some (some (.int v'), hG m2 l2 p1) ∧ Rel m2 l2 p1 := by
  obtain ⟨hc, hm⟩ := b_wilts ok T
  obtain ⟨v, m1, l1, p1, e1, k1, f1, g1⟩ := hc m l p kc
  obtain ⟨v', m2, l2, e2, k2, f2, g2⟩ := hm m1 l1 p1 (Ml_fr f1 g1 km)
  exact ⟨v, v', m1, l1, p1, m2, l2, e1, e2, S, T, ok, Cl_fr f2 g2 k1, k2⟩
theorem lw_T {m : hM} {l : Nat → Nat → Int64} {p : Nat → Option Nat} {S : pS} {T : Int64} (ok : Ok S) (kc : Cl m l p S T) (km : Ml m l S T) : f_X5_trace [.ref 0] (hG m l p) = some (some (.long T), hG m l p) ∧ f_X6_trace [.ref 99] (hG m l p) = some (some (.long T), hG (hw m 99 0 0) l p) ∧ Rel (hw m 99 0 0) l p :=
  ⟨c_trace kc, m_trace km, S, T, ok, Cl_fr (ml0 m 0) rfl kc, Ml_th 0 km⟩
theorem lw_end {L i : Nat} (hL : L ≤ 256) (hi : i ≤ 1000) : (Int32.ofNat L - 4) < nI i ↔ L < i + 4 := by
  rw [show Int32.ofNat L - 4 = zI ((L : Int) - 4) from by
    show nI L - nI 4 = _
    rw [nI_z, nI_z, z_sub]; rfl, nI_z, z_lt (by omega) (by omega) (by omega) (by omega)]
  omega
