/-! THE WORDS that the methods need, once each; that they are the tables' -/
def sx_ws (ws : List Cond) : Prop := ∀ w ∈ ws, w ∈ lw_tbl ∧ goodWord w = true
theorem wx_in {ws : List Cond} {is : List Nat} (h : ws = is.filterMap (fun i => lw_tbl[i]?)) : ∀ w ∈ ws, w ∈ lw_tbl := fun w hw => by
  rw [h] at hw
  obtain ⟨i, -, hi⟩ := List.mem_filterMap.mp hw
  exact List.mem_of_getElem? hi
theorem wx_of {ws : List Cond} (is : List Nat) (h : ws = is.filterMap (fun i => lw_tbl[i]?)) (hg : ws.all goodWord = true) : sx_ws ws := fun w hw => ⟨wx_in h w hw, List.all_eq_true.mp hg w hw⟩
def wn_l : List Cond := [.methodLinkNest RX5 11 yX3_init "DaisyChain", .methodLinkNest RX3 21 yX4_init "DaisyChain", .methodLinkNest RX5 18 yX4_init "DaisyChain", .methodLinkNest RX5 25 yX0_init "DaisyChain", .methodLinkNest RX5 56 yX1_init "DaisyChain", .methodLinkNest RX5 69 yX2_init "DaisyChain", .methodLinkNest RX3 83 yX5_isWithin "DaisyChain", .methodLinkNest RX1 33 yX5_bestPlace "DaisyChain", .methodLinkNest RX2 29 yX5_strength "DaisyChain"]
theorem wn_sub : ∀ w ∈ wn_l, w ∈ lw_tbl := wx_in (is := [82, 88, 156, 159, 202, 218, 329, 535, 605]) (by decide +kernel)
