/-! the model on a fresh object -/
def Ga (r : Option sx_R) (v : Int32) : Prop := ∃ (m1 : hM) (l1 : Nat → Nat → Int64) (p1 : Nat → Option Nat), r = some (some (.int v), hG m1 l1 p1)
theorem Ga.of {m : hM} {l : Nat → Nat → Int64} {p : Nat → Option Nat} (v : Int32) : Ga (some (some (.int v), hG m l p)) v := ⟨_, _, _, rfl⟩
theorem Ga.eq {m : hM} {l : Nat → Nat → Int64} {p : Nat → Option Nat} {v v' : Int32} (h : v' = v) : Ga (some (some (.int v'), hG m l p)) v := ⟨_, _, _, by rw [h]⟩
theorem z99 {mi : hM} (hm : Mf mi) (k : Nat) : mi 99 k = 0 := by rw [hm 99 (by omega), mI0 (by omega) (by omega) (by omega)]
theorem z105 {mi : hM} (hm : Mf mi) (k : Nat) : mi 105 k = 0 := by rw [hm 105 (by omega), mI0 (by omega) (by omega) (by omega)]
theorem z107 {mi : hM} (hm : Mf mi) (k : Nat) : mi 107 k = 0 := by rw [hm 107 (by omega), mI0 (by omega) (by omega) (by omega)]
theorem z101 {mi : hM} (hm : Mf mi) : mi 101 0 = 0 := by rw [hm 101 (by omega)]; rfl
theorem z101' {mi : hM} (hm : Mf mi) : mi 101 1 = 2 := by rw [hm 101 (by omega)]; rfl
theorem z_ok {mi : hM} (hm : Mf mi) : hw mi 99 0 0 = mi := hw_id (z99 hm 0)
theorem z_isF {mi : hM} (hm : Mf mi) (ml : Nat → Nat → Int64) (pm : Nat → Option Nat) (a : Int32) : f_X6_isFlower [.ref 99, .int a] (hG mi ml pm) = some (some (.int 0), hG mi ml pm) := by
  rw [x6_isFlower, z101 hm, wi3_none]
theorem z_type {mi : hM} (hm : Mf mi) (ml : Nat → Nat → Int64) (pm : Nat → Option Nat) (a : Int32) : Ga (f_X6_type [.ref 99, .int a] (hG mi ml pm)) (if wi3 a 0 255 = 0 then -1 else 1) := by
  rw [e_X6_type, z_ok hm, x6_in, bI_i, e_X6_type_13]
  by_cases h : wi3 a 0 255 = 0
  · rw [if_pos h, if_pos h]; exact Ga.of _
  · rw [if_neg h, if_neg h, z99 hm, if_neg (by decide), if_pos (by decide)]; exact Ga.eq (by decide)
theorem z_clear {mi : hM} (hm : Mf mi) (ml : Nat → Nat → Int64) (pm : Nat → Option Nat) : Ga (f_X6_clear [.ref 99] (hG mi ml pm)) 0 := by
  rw [e_X6_clear, z99 hm]; exact Ga.of _
theorem z_flower {mi : hM} (hm : Mf mi) (ml : Nat → Nat → Int64) (pm : Nat → Option Nat) (a b : Int32) : Ga (f_X6_flower [.ref 99, .int a, .int b] (hG mi ml pm)) (-1) := by
  rw [e_X6_flower, z_ok hm, z_isF hm, bI_i, e_X6_flower_10, if_pos (by decide)]; exact Ga.of _
theorem z_link {mi : hM} (hm : Mf mi) (ml : Nat → Nat → Int64) (pm : Nat → Option Nat) (a : Int32) : Ga (f_X6_link [.ref 99, .int a] (hG mi ml pm)) (-1) := by
  rw [e_X6_link, z_ok hm, x6_in, bI_i, z105 hm, wi3_none, e_X6_link_19, if_pos (by decide)]; exact Ga.of _
theorem z_inches {mi : hM} (hm : Mf mi) (ml : Nat → Nat → Int64) (pm : Nat → Option Nat) : f_X6_inchesNow [.ref 99] (hG mi ml pm) = some (some (.int 0), hG mi ml pm) := by
  rw [e_X6_inchesNow, e_X6_inchesNow_4, z105 hm, if_pos (by decide)]
theorem z_now {mi : hM} (hm : Mf mi) (ml : Nat → Nat → Int64) (pm : Nat → Option Nat) (a : Int32) : Ga (f_X6_now [.ref 99, .int a] (hG mi ml pm)) (if wi3 a 0 6 = 0 then -1 else 0) := by
  rw [e_X6_now, z_ok hm, x6_in, bI_i, e_X6_now_12]
  by_cases h : wi3 a 0 6 = 0
  · rw [if_pos h, if_pos h]; exact Ga.of _
  · rw [if_neg h, if_neg h, e_X6_now_21, z101 hm, if_pos (by decide)]
    by_cases h3 : 3 ≤ a
    · rw [if_pos h3, z105 hm]
      by_cases q : a = 3
      · rw [if_pos q]; exact Ga.of _
      · rw [if_neg q]
        by_cases q : a = 4
        · rw [if_pos q, z_inches hm, bI_i, e_X6_now_93]; exact Ga.of _
        · rw [if_neg q]
          by_cases q : a = 5
          · rw [if_pos q]; exact Ga.of _
          · rw [if_neg q, z99 hm]; exact Ga.of _
    · rw [if_neg h3]
      have g := wi_le h
      have g1 := Int32.le_iff_toInt_le.mp g.1
      have g2 := Int32.le_iff_toInt_le.mp g.2
      have e0 : (0 : Int32).toInt = 0 := rfl
      have e6 : (6 : Int32).toInt = 6 := rfl
      have hin : sx_in a 32 := by
        rw [show sx_in a 32 ↔ vp_in a 32 from Iff.rfl, vp_in_iff]
        omega
      rw [if_pos hin, z105 hm]; exact Ga.of _
theorem z_picks {mi : hM} (hm : Mf mi) (ml : Nat → Nat → Int64) (pm : Nat → Option Nat) (a : Int32) : Ga (f_X6_picks [.ref 99, .int a] (hG mi ml pm)) (-1) := by
  rw [e_X6_picks, z_ok hm, z_isF hm, bI_i, e_X6_picks_10, if_pos (by decide)]; exact Ga.of _
theorem z_slits {mi : hM} (hm : Mf mi) (ml : Nat → Nat → Int64) (pm : Nat → Option Nat) (a b c : Int32) : Ga (f_X6_slits [.ref 99, .int a, .int b, .int c] (hG mi ml pm)) (-1) := by
  rw [e_X6_slits, z_ok hm, z_isF hm, bI_i, e_X6_slits_10, if_pos (by decide)]; exact Ga.of _
theorem z_threads {mi : hM} (hm : Mf mi) (ml : Nat → Nat → Int64) (pm : Nat → Option Nat) (a : Int32) : Ga (f_X6_threads [.ref 99, .int a] (hG mi ml pm)) (-1) := by
  rw [e_X6_threads, z_ok hm, z_isF hm, bI_i, e_X6_threads_10, if_pos (by decide)]; exact Ga.of _
theorem z_pulls {mi : hM} (hm : Mf mi) (ml : Nat → Nat → Int64) (pm : Nat → Option Nat) : Ga (f_X6_pulls [.ref 99] (hG mi ml pm)) (-2) := by
  rw [e_X6_pulls, z105 hm, if_pos (by decide)]; exact Ga.of _
theorem z_undo {mi : hM} (hm : Mf mi) (ml : Nat → Nat → Int64) (pm : Nat → Option Nat) : Ga (f_X6_undo [.ref 99] (hG mi ml pm)) (-2) := by
  rw [e_X6_undo, z99 hm, if_pos (by decide)]; exact Ga.of _
theorem z_notes {mi : hM} (hm : Mf mi) (ml : Nat → Nat → Int64) (pm : Nat → Option Nat) : ∃ m1 : hM, f_X6_notes [.ref 99] (hG mi ml pm) = some (none, hG m1 ml pm) ∧ (∀ k, m1 105 k = 0) ∧ m1 101 0 = 0 := by
  rw [e_X6_notes, z99 hm, if_neg (by decide), x6_notes2 ml pm mi (u := 0) (by omega) (z99 hm 18)]
  refine ⟨_, rfl, fun k => ?_, ?_⟩
  · rw [hw_ne _ _ _ (by omega), hcel_ne _ _ (by omega), z105 hm]
  · rw [hw_ne _ _ _ (by omega), hcel_ne _ _ (by omega), z101 hm]
theorem z_minutes {mi : hM} (hm : Mf mi) (ml : Nat → Nat → Int64) (pm : Nat → Option Nat) (a : Int32) : Ga (f_X6_minutes [.ref 99, .int a] (hG mi ml pm)) (if wi3 a 1 60 = 0 then -1 else 0 + a) := by
  rw [e_X6_minutes, z_ok hm, x6_in, bI_i, e_X6_minutes_12]
  by_cases h : wi3 a 1 60 = 0
  · rw [if_pos h, if_pos h]; exact Ga.of _
  · rw [if_neg h, if_neg h]
    have hl : (0 : Int32) + a ≤ 600 := by
      rw [Int32.zero_add]
      exact Int32.le_trans (wi_le h).2 (by decide)
    obtain ⟨m1, e1, h1, h2⟩ := z_notes hm ml pm
    rw [z105 hm, if_pos hl, e1, bV_v, e_X6_minutes_38, e_X6_minutes_50, hw_ne (c := 105) _ _ _ (by omega), h2, if_pos (by decide), h1]
    exact Ga.eq (by simp [hw])
theorem z_water {mi : hM} (hm : Mf mi) (ml : Nat → Nat → Int64) (pm : Nat → Option Nat) (a : Int32) : Ga (f_X6_water [.ref 99, .int a] (hG mi ml pm)) (if wi3 a 0 1 = 0 then -1 else 0) := by
  rw [e_X6_water, z_ok hm, x6_in, bI_i, e_X6_water_11]
  by_cases h : wi3 a 0 1 = 0
  · rw [if_pos h, if_pos h]; exact Ga.of _
  · obtain ⟨m1, e1, h1, h2⟩ := z_notes hm ml pm
    rw [if_neg h, if_neg h, e1, bV_v, e_X6_water_20, h1]; exact Ga.of _
theorem z_weakest {mi : hM} (hm : Mf mi) (ml : Nat → Nat → Int64) (pm : Nat → Option Nat) (a : Int32) : Ga (f_X6_weakest [.ref 99, .int a] (hG mi ml pm)) (if wi3 a 0 1 = 0 then -1 else -9) := by
  rw [e_X6_weakest, z_ok hm, x6_in, bI_i, e_X6_weakest_11]
  by_cases h : wi3 a 0 1 = 0
  · rw [if_pos h, if_pos h]; exact Ga.of _
  · rw [if_neg h, if_neg h, e_X6_weakest_21, z105 hm, if_pos (by decide), if_pos rfl]; exact Ga.of _
theorem z_hung {mi : hM} (hm : Mf mi) (ml : Nat → Nat → Int64) (pm : Nat → Option Nat) : Ga (f_X6_hung [.ref 99] (hG mi ml pm)) (-9) := by
  rw [e_X6_hung, z_ok hm, e_X6_hung_7, z105 hm, if_pos (by decide)]; exact Ga.of _
theorem z_inTime0 {mi : hM} (hm : Mf mi) (ml : Nat → Nat → Int64) (pm : Nat → Option Nat) (a : Int32) : w_X6_inTime_19 a 0 (hG mi ml pm) = some (some (.int (-9)), hG mi ml pm) := by
  obtain ⟨s', e1, -⟩ := lpI (σ := Unit) (w := fun i _ => w_X6_inTime_19 a i (hG mi ml pm)) (I := fun _ _ => True) (n := 401) (fun i s hi _ => ⟨(), by
    rw [e_X6_inTime_19, if_neg (show ¬ (400 : Int32) < nI i from fun h => absurd ((lt_nI (a := 400) (by omega) (by omega)).mp h) (by omega)), e_X6_inTime_28, z105 hm, if_pos (by decide), nI_1], trivial⟩) (i := 0) (by omega) (s := ()) trivial
  have e1 : w_X6_inTime_19 a 0 (hG mi ml pm) = w_X6_inTime_19 a (nI 401) (hG mi ml pm) := e1
  rw [e1, e_X6_inTime_19, if_pos (by decide)]
theorem z_inTime {mi : hM} (hm : Mf mi) (ml : Nat → Nat → Int64) (pm : Nat → Option Nat) (a : Int32) : Ga (f_X6_inTime [.ref 99, .int a] (hG mi ml pm)) (if wi3 a 1 99 = 0 then -1 else -9) := by
  rw [e_X6_inTime, z_ok hm, x6_in, bI_i, e_X6_inTime_12]
  by_cases h : wi3 a 1 99 = 0
  · rw [if_pos h, if_pos h]; exact Ga.of _
  · rw [if_neg h, if_neg h, z_inTime0 hm]; exact Ga.of _
theorem z_ones0 (ml : Nat → Nat → Int64) (pm : Nat → Option Nat) (mi : hM) : f_X6_ones [.int 0] (hG mi ml pm) = some (some (.int 0), hG mi ml pm) := by
  rw [e_X6_ones, e_X6_ones_4, if_neg (by decide), e_X6_ones_4, if_neg (by decide), e_X6_ones_4, if_neg (by decide), e_X6_ones_4, if_neg (by decide), e_X6_ones_4, if_neg (by decide), e_X6_ones_4, if_neg (by decide), e_X6_ones_4, if_neg (by decide), e_X6_ones_4, if_pos (by decide)]
  congr 3
theorem z_props {mi : hM} (hm : Mf mi) (ml : Nat → Nat → Int64) (pm : Nat → Option Nat) (a : Int32) : Ga (f_X6_props [.ref 99, .int a] (hG mi ml pm)) (if wi3 a 0 1 = 0 then -1 else 0) := by
  rw [e_X6_props, z_ok hm, x6_in, bI_i, e_X6_props_11]
  by_cases h : wi3 a 0 1 = 0
  · rw [if_pos h, if_pos h]; exact Ga.of _
  · rw [if_neg h, if_neg h, z105 hm, if_pos rfl, e_X6_props_35, z105 hm, if_pos (by decide), z_ones0, bI_i, e_X6_props_156]
    by_cases q : a = 0
    · rw [if_pos q]; exact Ga.of _
    · rw [if_neg q]; exact Ga.of _
theorem z_ring {mi : hM} (hm : Mf mi) (ml : Nat → Nat → Int64) (pm : Nat → Option Nat) : Ga (f_X6_ring [.ref 99] (hG mi ml pm)) 0 := by
  rw [e_X6_ring, z105 hm 24, if_neg (by decide)]; exact Ga.of _
theorem z_loves {mi : hM} (hm : Mf mi) (ml : Nat → Nat → Int64) (pm : Nat → Option Nat) : Ga (f_X6_loves [.ref 99] (hG mi ml pm)) 0 := by
  rw [e_X6_loves, z_ok hm, e_X6_loves_9, z105 hm 24, if_pos (by decide)]; exact Ga.eq (by decide)
theorem z_bestSlit {mi : hM} (hm : Mf mi) (ml : Nat → Nat → Int64) (pm : Nat → Option Nat) (a b c : Int32) : Ga (f_X6_bestSlit [.ref 99, .int a, .int b, .int c] (hG mi ml pm)) (-1) := by
  rw [e_X6_bestSlit, z_ok hm, z_isF hm, bI_i, e_X6_bestSlit_10, if_pos (by decide)]; exact Ga.of _
theorem z_seen {mi : hM} (hm : Mf mi) (ml : Nat → Nat → Int64) (pm : Nat → Option Nat) (a b : Int32) : Ga (f_X6_seen [.ref 99, .int a, .int b] (hG mi ml pm)) (if wi3 a 1 99 = 0 then -1 else if wi3 b 0 1 = 0 then -1 else 1) := by
  rw [e_X6_seen, z_ok hm, x6_in, bI_i, e_X6_seen_12]
  by_cases h : wi3 a 1 99 = 0
  · rw [if_pos h, if_pos h]; exact Ga.of _
  · rw [if_neg h, if_neg h, x6_in, bI_i, e_X6_seen_21]
    by_cases h : wi3 b 0 1 = 0
    · rw [if_pos h, if_pos h]; exact Ga.of _
    · rw [if_neg h, if_neg h, z99 hm, if_neg (by decide), if_pos (by decide), if_pos (by decide)]; exact Ga.eq (by decide)
theorem z_forget {mi : hM} (hm : Mf mi) (ml : Nat → Nat → Int64) (pm : Nat → Option Nat) : Ga (f_X6_forget [.ref 99] (hG mi ml pm)) 0 := by
  rw [e_X6_forget, z99 hm]; exact Ga.of _
theorem z_wilts1 {mi : hM} (hm : Mf mi) (ml : Nat → Nat → Int64) (pm : Nat → Option Nat) (a b : Int32) (h : ¬ (10 : Int32) ≤ b) : w_X6_wilts_9 a b (hG mi ml pm) = w_X6_wilts_9 (a ||| ((1 : Int32) <<< (b &&& 31))) (b + 1) (hG mi ml pm) := by
  rw [e_X6_wilts_9, if_neg h, e_X6_wilts_20, z99 hm, if_pos (by decide), if_neg (by decide)]
theorem z_wilts {mi : hM} (hm : Mf mi) (ml : Nat → Nat → Int64) (pm : Nat → Option Nat) : Ga (f_X6_wilts [.ref 99] (hG mi ml pm)) 1023 := by
  rw [e_X6_wilts, z_ok hm]
  rw [z_wilts1 hm ml pm _ _ (by decide), z_wilts1 hm ml pm _ _ (by decide), z_wilts1 hm ml pm _ _ (by decide), z_wilts1 hm ml pm _ _ (by decide), z_wilts1 hm ml pm _ _ (by decide), z_wilts1 hm ml pm _ _ (by decide), z_wilts1 hm ml pm _ _ (by decide), z_wilts1 hm ml pm _ _ (by decide), z_wilts1 hm ml pm _ _ (by decide), z_wilts1 hm ml pm _ _ (by decide)]
  rw [e_X6_wilts_9, if_pos (by decide)]
  exact Ga.eq (by decide)
theorem z_rate {mi : hM} (hm : Mf mi) (ml : Nat → Nat → Int64) (pm : Nat → Option Nat) (a b : Int32) : Ga (f_X6_rate [.ref 99, .int a, .int b] (hG mi ml pm)) (-1000000) := by
  rw [e_X6_rate, z_ok hm, x6_in, bI_i, e_X6_rate_11]
  by_cases h : wi3 a 0 5 = 0
  · rw [if_pos h]; exact Ga.of _
  · rw [if_neg h, z_isF hm, bI_i, e_X6_rate_19, if_pos (by decide)]; exact Ga.of _
theorem z_back {mi : hM} (hm : Mf mi) (ml : Nat → Nat → Int64) (pm : Nat → Option Nat) (a : Int32) : Ga (f_X6_back [.ref 99, .int a] (hG mi ml pm)) (if wi3 a 0 1 = 0 then -1 else -2) := by
  rw [e_X6_back, z_ok hm, x6_in, bI_i, e_X6_back_11]
  by_cases h : wi3 a 0 1 = 0
  · rw [if_pos h, if_pos h]; exact Ga.of _
  · rw [if_neg h, if_neg h]
    rcases in_of_wi h with rfl | rfl
    · rw [if_pos (by decide), z107 hm, if_pos (by decide)]; exact Ga.of _
    · rw [if_pos (by decide), z107 hm, if_pos (by decide)]; exact Ga.of _
theorem z_count {mi : hM} (hm : Mf mi) (ml : Nat → Nat → Int64) (pm : Nat → Option Nat) (a : Int32) : Ga (f_X6_count [.ref 99, .int a] (hG mi ml pm)) (if a = 0 then 0 else if a = 1 then 2 else if a = 2 then 0 else if a = 3 then 0 else -1) := by
  rw [e_X6_count, z_ok hm, x6_in, bI_i, e_X6_count_11]
  by_cases h : wi3 a 0 1 = 0
  · have n0 : ¬ a = 0 := by rintro rfl; exact absurd h (by decide)
    have n1 : ¬ a = 1 := by rintro rfl; exact absurd h (by decide)
    rw [if_pos h, if_neg n0, if_neg n1, z99 hm, z99 hm]
    by_cases q : a = 2
    · rw [if_pos q, if_pos q]; exact Ga.of _
    · rw [if_neg q, if_neg q]
      by_cases q : a = 3
      · rw [if_pos q, if_pos q]; exact Ga.of _
      · rw [if_neg q, if_neg q]; exact Ga.of _
  · rw [if_neg h]
    rcases in_of_wi h with rfl | rfl
    · rw [if_pos (by decide), if_pos rfl]; exact Ga.eq (z101 hm)
    · rw [if_pos (by decide), if_neg (by decide), if_pos rfl]; exact Ga.eq (z101' hm)
