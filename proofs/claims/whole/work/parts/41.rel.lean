/-! ===== what the class's state and the reference's have to do with one another ===== -/
def RA (Xr Mr : Nat → Int64) : Prop := ∀ k, k < 8 → Mr k = Xr k ∧ Fit (Xr k)
def RB (Xu : Int32) (Xs Xw : Nat → Int32) (Mg : Int32) (Ms Mw : Nat → Int32) : Prop := ∃ g : Nat, g ≤ 12 ∧ Xu = nI g ∧ Mg = nI g ∧ ∀ i, i < g → Ms i = Xs i ∧ Mw i = Xw i ∧ (∃ a : Nat, 1 ≤ a ∧ a ≤ 9 ∧ Xs i = nI a) ∧ (∃ w : Nat, w < 2 ∧ Xw i = nI w)
-- a few evaluations
theorem isBeyond_f {v : Int64} (h : Fit v) : fX5_isBeyond v = some 0 := by
  obtain ⟨h1, h2⟩ := h
  unfold fX5_isBeyond
  rw [if_pos (by rw [Int64.lt_iff_toInt_lt]; exact h1), if_pos (by rw [Int64.lt_iff_toInt_lt]; exact h2)]
theorem isBeyond_n {v : Int64} (h : ¬ Fit v) : fX5_isBeyond v = some 1 := by
  unfold fX5_isBeyond
  by_cases h1 : -1000000000000 < v.toInt
  · rw [if_pos (by rw [Int64.lt_iff_toInt_lt]; exact h1), if_neg (by rw [Int64.lt_iff_toInt_lt]; show ¬ v.toInt < 1000000000000; unfold Fit at h; omega)]
  · rw [if_neg (by rw [Int64.lt_iff_toInt_lt]; exact h1)]
theorem in9_fit (v : Int64) : (Fit v → fX9_in v (-999999999999 : Int64) (999999999999 : Int64) = some 1) ∧ (¬ Fit v → fX9_in v (-999999999999 : Int64) (999999999999 : Int64) = some 0) := by
  rw [in9]
  have e1 : (-999999999999 : Int64).toInt = -999999999999 := by decide +kernel
  have e2 : (999999999999 : Int64).toInt = 999999999999 := by decide +kernel
  rw [e1, e2]
  exact ⟨fun h => by rw [if_pos (by unfold Fit at h; omega)], fun h => by rw [if_neg (by unfold Fit at h; omega)]⟩
theorem colour89 (v : Int64) : fX9_colour v = fX5_colour v := by
  unfold fX9_colour fX5_colour
  by_cases h0 : v = 0
  · subst h0; rfl
  · rw [if_neg h0]
    by_cases h1 : (0 : Int64) < v
    · rw [if_pos h1, if_pos h1]
    · rw [if_neg h1, if_neg h1, if_pos]
      rcases Int64.lt_or_eq_of_le (Int64.not_lt.mp h1) with q | q
      · exact q
      · exact absurd q h0
theorem colour_some (v : Int64) : ∃ r, fX5_colour v = some r := by
  unfold fX5_colour
  by_cases h0 : v = 0
  · exact ⟨0, by rw [if_pos h0]⟩
  · by_cases h1 : (0 : Int64) < v
    · exact ⟨1, by rw [if_neg h0, if_pos h1]⟩
    · exact ⟨2, by rw [if_neg h0, if_neg h1]⟩
theorem nI_not_neg {k : Nat} (h : k < 2 ^ 31) : ¬ nI k < (0 : Int32) := nI_pos h
theorem nI_lt_lit {k n : Nat} (h : k < n) (hn : n < 2 ^ 31) : nI k < nI n := nI_lt h hn
theorem held_n {f : Nat → Int64} {k : Nat} (h : k < 8) : fX7_held (nI k) f = some (f k) := by
  unfold fX7_held
  rw [if_neg (nI_not_neg (by omega)), if_pos (show nI k < (8 : Int32) from nI_lt h (by decide)), rdJ_n h (by decide)]
  rfl
theorem hold_n {f : Nat → Int64} {k : Nat} (v : Int64) (h : k < 8) : fX7_hold (nI k) v f = some (vp_updL f k v) := by
  unfold fX7_hold
  rw [if_neg (nI_not_neg (by omega)), if_pos (show nI k < (8 : Int32) from nI_lt h (by decide)), wrJ_n v h (by decide)]
  rfl
theorem G_lay (p0 : Int32) (p1 : Int64) {Xr Mr : Nat → Int64} (h : RA Xr Mr) : ∃ (r : Int32) (o1 o2 : Nat → Int64), fX8_lay p0 p1 Xr = some (r, o1) ∧ fX9_lay p0 p1 Mr = some (r, o2) ∧ RA o1 o2 := by
  unfold fX8_lay fX9_lay
  rcases row_cases p0 with ⟨k, hk, rfl, h8, h9⟩ | ⟨h8, h9⟩
  · rw [h8, h9]
    simp only [Option.bind_some]
    rw [if_neg (by decide), if_neg (by decide)]
    by_cases hf : Fit p1
    · obtain ⟨c, hc⟩ := colour_some p1
      rw [isBeyond_f hf, (in9_fit p1).1 hf, hold_n p1 hk, wrJ_n p1 hk (by decide), colour89, hc]
      refine ⟨c, _, _, rfl, rfl, fun j hj => ?_⟩
      by_cases e : j = k
      · subst e; rw [updL_at, updL_at]; exact ⟨rfl, hf⟩
      · rw [updL_ne e, updL_ne e]; exact h j hj
    · rw [isBeyond_n hf, (in9_fit p1).2 hf]
      exact ⟨-2, Xr, Mr, rfl, rfl, h⟩
  · rw [h8, h9]
    exact ⟨-1, Xr, Mr, rfl, rfl, h⟩
theorem G_number (p0 : Int32) {Xr Mr : Nat → Int64} (h : RA Xr Mr) : ∃ r : Int64, fX8_number p0 Xr = some r ∧ fX9_number p0 Mr = some r := by
  unfold fX8_number fX9_number
  rcases row_cases p0 with ⟨k, hk, rfl, h8, h9⟩ | ⟨h8, h9⟩
  · rw [h8, h9]
    simp only [Option.bind_some]
    rw [if_neg (by decide), if_neg (by decide), held_n hk, rdJ_n hk (by decide), (h k hk).1]
    exact ⟨_, rfl, rfl⟩
  · rw [h8, h9]
    exact ⟨_, rfl, rfl⟩
theorem i10 {α : Type} {a b : α} : (if (1 : Int32) = 0 then a else b) = b := if_neg (by decide)
theorem i00 {α : Type} {a b : α} : (if (0 : Int32) = 0 then a else b) = a := if_pos rfl
theorem lt12 {i : Nat} (h : i < 12) : nI i < (12 : Int32) := nI_lt h (by decide)
theorem lt8 {i : Nat} (h : i < 8) : nI i < (8 : Int32) := nI_lt h (by decide)
theorem nlt1 {i : Nat} (h : 1 ≤ i) (hi : i < 2 ^ 31) : ¬ nI i < (1 : Int32) := nI_nlt (b := 1) h hi
theorem lt9n {i : Nat} (h : i ≤ 9) : ¬ (9 : Int32) < nI i := nI_nlt (a := 9) h (by decide)
theorem lt1n {i : Nat} (h : i ≤ 1) : ¬ (1 : Int32) < nI i := nI_nlt (a := 1) h (by decide)
theorem ne12 {i : Nat} (h : i < 12) : ¬ nI i = (12 : Int32) := fun q => by
  have := (nI_eq (a := i) (b := 12) (by omega) (by decide)).mp q
  omega
