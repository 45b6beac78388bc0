theorem nw_X7_course : Cond.fieldLinkNest RX8 132 "RodBoard$Working" "course" "LRodBoard$Course;" RX8 ∈ NWS := List.mem_of_getElem? (i := 0) rfl
theorem nw_X1_course : Cond.fieldLinkNest RX8 157 "RodBoard$Clerk" "course" "LRodBoard$Course;" RX8 ∈ NWS := List.mem_of_getElem? (i := 1) rfl
theorem nw_X0_n : Cond.fieldLinkNest RX8 187 "RodBoard$Clearing" "n" "I" RX8 ∈ NWS := List.mem_of_getElem? (i := 2) rfl
theorem nw_X0_m : Cond.fieldLinkNest RX8 258 "RodBoard$Clearing" "m" "I" RX8 ∈ NWS := List.mem_of_getElem? (i := 3) rfl
theorem nw_X0_turnsTaken : Cond.fieldLinkNest RX8 199 "RodBoard$Clearing" "turnsTaken" "I" RX8 ∈ NWS := List.mem_of_getElem? (i := 4) rfl
theorem nw_X8_isRow : Cond.methodLinkNest RX3 23 yX8_isRow RX8 ∈ NWS := List.mem_of_getElem? (i := 12) rfl
theorem tab_out {lo hi : Int} {x : Int32} (h : ∀ z : Int, lo ≤ z → z ≤ hi → ¬ x.toInt = z) : x.toInt < lo ∨ hi < x.toInt := by
  by_cases h1 : x.toInt < lo
  · exact Or.inl h1
  · by_cases h2 : hi < x.toInt
    · exact Or.inr h2
    · exact absurd rfl (h _ (by omega) (by omega))
theorem tab_eq {x y : Int32} (q : x.toInt = y.toInt) : x = y := Int32.toInt_inj.mp q
