/-! ===== boards and their copy: what they hold ===== -/
abbrev LOSTv : Int64 := -1000000000000000
theorem lost_toInt : LOSTv.toInt = -1000000000000000 := by decide +kernel
theorem lost_not_fit {v : Int64} (h : Fit v) : ¬ v = LOSTv := by
  intro e
  have h1 := h.1
  rw [e, lost_toInt] at h1
  omega
def NoteOk (N : Nat → Int32) (i : Nat) : Prop := ∃ (k a p : Nat) (d : Int), N (6 * i) = nI k ∧ N (6 * i + 1) = nI a ∧ N (6 * i + 2) = nI p ∧ (N (6 * i + 3)).toInt = d ∧ a < 8 ∧ p < 12 ∧ -81 ≤ d ∧ d ≤ 81 ∧ (k = 0 ∨ k = 1 ∨ k = 5 ∨ (1 ≤ d ∧ d ≤ 9 ∧ ∃ b, b < 8 ∧ b ≠ a ∧ N (6 * i + 4) = nI b ∧ (k = 2 ∧ (∃ c, c < 8 ∧ c ≠ a ∧ c ≠ b ∧ N (6 * i + 5) = nI c) ∨ k = 3 ∧ p < 6 ∨ k = 4 ∧ p < 4)))
def RCw (b : Nat) (Xb : Int32) (Xc : Nat → Int64) (Xn : Nat → Int32) (Mb : Int32) (Mc : Nat → Int64) (Mn : Nat → Int32) : Prop := b ≤ 49 ∧ Xb = nI b ∧ Mb = nI b ∧ (∀ k, k < 8 * b → Mc k = Xc k ∧ Fit (Xc k)) ∧ (∀ k, k + 6 < 6 * b → Mn k = Xn k) ∧ (∀ i, i + 1 < b → NoteOk Xn i)
def RCc (b : Nat) (Xn : Nat → Int32) (Cb : Int32) (Cc : Nat → Int64) (Cn : Nat → Int32) (Mh : Int32) (My : Nat → Int64) (Mg : Nat → Int32) : Prop := (Mh = 0 ∧ Cb = nI 0) ∨ (Mh = 1 ∧ 1 ≤ b ∧ Cb = nI b ∧ (∀ k, k + 6 < 6 * b → Cn k = Xn k) ∧ ∀ k, k < 8 * b → Fit (My k) ∧ (Mg k = 0 ∧ Cc k = My k ∨ Mg k = 1 ∧ Cc k = LOSTv))
def RC (Xb : Int32) (Xc : Nat → Int64) (Xn : Nat → Int32) (Cb : Int32) (Cc : Nat → Int64) (Cn : Nat → Int32) (Mb : Int32) (Mc : Nat → Int64) (Mn : Nat → Int32) (Mh : Int32) (My : Nat → Int64) (Mg : Nat → Int32) : Prop := ∃ b : Nat, RCw b Xb Xc Xn Mb Mc Mn ∧ RCc b Xn Cb Cc Cn Mh My Mg
theorem ix8 (i r : Nat) : nI i * (8 : Int32) + nI r = nI (8 * i + r) := by
  rw [show nI i * (8 : Int32) = nI (i * 8) from nI_mul i 8, nI_add, Nat.mul_comm i 8]
theorem ix8' (i r : Nat) : (8 : Int32) * nI i + nI r = nI (8 * i + r) := by
  rw [show (8 : Int32) * nI i = nI (8 * i) from nI_mul 8 i, nI_add]
theorem ix6 (i r : Nat) : nI i * (6 : Int32) + nI r = nI (6 * i + r) := by
  rw [show nI i * (6 : Int32) = nI (i * 6) from nI_mul i 6, nI_add, Nat.mul_comm i 6]
theorem ix6' (i r : Nat) : (6 : Int32) * nI i + nI r = nI (6 * i + r) := by
  rw [show (6 : Int32) * nI i = nI (6 * i) from nI_mul 6 i, nI_add]
theorem cell_n {f : Nat → Int64} {i r : Nat} (h : 8 * i + r < 392) : fX3_cell (nI i) (nI r) f = some (f (8 * i + r)) := by
  unfold fX3_cell
  rw [ix8, if_neg (nI_not_neg (by omega)), if_pos (show nI (8 * i + r) < (392 : Int32) from nI_lt (b := 392) h (by decide)), rdJ_n h (by decide)]; rfl
theorem put_n {f : Nat → Int64} {i r : Nat} (v : Int64) (h : 8 * i + r < 392) : fX3_put (nI i) (nI r) v f = some (vp_updL f (8 * i + r) v) := by
  unfold fX3_put
  rw [ix8, if_neg (nI_not_neg (by omega)), if_pos (show nI (8 * i + r) < (392 : Int32) from nI_lt (b := 392) h (by decide)), wrJ_n v h (by decide)]; rfl
theorem noted_n {f : Nat → Int32} {i r : Nat} (h : 6 * i + r < 288) : fX3_noted (nI i) (nI r) f = some (f (6 * i + r)) := by
  unfold fX3_noted
  rw [ix6, if_neg (nI_not_neg (by omega)), if_pos (show nI (6 * i + r) < (288 : Int32) from nI_lt (b := 288) h (by decide)), rdI_n h (by decide)]; rfl
theorem tell_n {f : Nat → Int32} {i r : Nat} (v : Int32) (h : 6 * i + r < 288) : fX3_tell (nI i) (nI r) v f = some (upd f (6 * i + r) v) := by
  unfold fX3_tell
  rw [ix6, if_neg (nI_not_neg (by omega)), if_pos (show nI (6 * i + r) < (288 : Int32) from nI_lt (b := 288) h (by decide)), wrI_n v h (by decide)]; rfl
theorem steps_n {b : Nat} (hb : b < 2 ^ 31) : fX3_steps (nI b) = some (nI (b - 1)) := by
  unfold fX3_steps
  rcases Nat.eq_zero_or_pos b with rfl | h
  · rw [if_pos (show nI 0 = (0 : Int32) from rfl)]; rfl
  · rw [if_neg (fun e => by have := (nI_z hb).mp e; omega), show nI b - (1 : Int32) = nI (b - 1) from nI_sub (b := 1) h]
theorem cell_cases (p0 p1 : Int32) {b : Nat} (hb : b ≤ 49) : (∃ i r, i < b ∧ r < 8 ∧ p0 = nI i ∧ p1 = nI r ∧ fX3_has p0 p1 (nI b) = some 1 ∧ fX9_isCell p0 p1 (nI b) = some 1) ∨ (fX3_has p0 p1 (nI b) = some 0 ∧ fX9_isCell p0 p1 (nI b) = some 0) := by
  have e1 : (1 : Int32).toInt = 1 := rfl
  have f0 : (0 : Int64).toInt = 0 := rfl
  have eb : ((nI b - 1).toInt64).toInt = (b : Int) - 1 := by
    rw [t32_to64, t32_sub, nI_toInt (by omega), e1] <;> rw [nI_toInt (by omega), e1] <;> omega
  unfold fX3_has fX9_isCell
  rcases rng p0 b (by omega) with ⟨i, hi, rfl⟩ | q
  · rw [if_neg (nI_not_neg (by omega)), if_pos (nI_lt hi (by omega)), in9_y (by rw [nI_64 (by omega), f0]; omega) (by rw [nI_64 (by omega), eb]; omega)]
    simp only [Option.bind_some, i10]
    rcases row_cases p1 with ⟨r, hr, rfl, h8, h9⟩ | ⟨h8, h9⟩
    · left
      rw [h8, h9]
      exact ⟨i, r, hi, hr, rfl, rfl, rfl, rfl⟩
    · right
      rw [h8, h9]
      exact ⟨rfl, rfl⟩
  · right
    rw [in9_no (by rw [t32_to64, f0, eb]; omega)]
    refine ⟨?_, rfl⟩
    by_cases q1 : p0 < 0
    · rw [if_pos q1]
    · rw [if_neg q1, if_neg]
      rw [Int32.lt_iff_toInt_lt] at q1 ⊢
      rw [nI_toInt (by omega)]
      have : ¬ p0.toInt < 0 := q1
      omega
theorem step_cases (p0 : Int32) {b : Nat} (hb : b ≤ 49) : (∃ i, i + 1 < b ∧ p0 = nI i ∧ ¬ p0 < 0 ∧ p0 < nI (b - 1) ∧ fX9_in p0.toInt64 (0 : Int64) ((nI b - (2 : Int32)).toInt64) = some 1) ∨ ((p0 < 0 ∨ ¬ p0 < 0 ∧ ¬ p0 < nI (b - 1)) ∧ fX9_in p0.toInt64 (0 : Int64) ((nI b - (2 : Int32)).toInt64) = some 0) := by
  have e2 : (2 : Int32).toInt = 2 := rfl
  have f0 : (0 : Int64).toInt = 0 := rfl
  have eb : ((nI b - 2).toInt64).toInt = (b : Int) - 2 := by
    rw [t32_to64, t32_sub, nI_toInt (by omega), e2] <;> rw [nI_toInt (by omega), e2] <;> omega
  rcases rng p0 (b - 1) (by omega) with ⟨i, hi, rfl⟩ | q
  · left
    exact ⟨i, by omega, rfl, nI_not_neg (by omega), nI_lt hi (by omega), in9_y (by rw [nI_64 (by omega), f0]; omega) (by rw [nI_64 (by omega), eb]; omega)⟩
  · right
    refine ⟨?_, in9_no (by rw [t32_to64, f0, eb]; omega)⟩
    by_cases q1 : p0 < 0
    · exact Or.inl q1
    · refine Or.inr ⟨q1, ?_⟩
      rw [Int32.lt_iff_toInt_lt] at q1 ⊢
      rw [nI_toInt (by omega)]
      have : ¬ p0.toInt < 0 := q1
      omega
theorem G_boards {Xb Xc Xn Cb Cc Cn Mb Mc Mn Mh My Mg} (h : RC Xb Xc Xn Cb Cc Cn Mb Mc Mn Mh My Mg) : ∃ r : Int32, fX8_boards Xb = some r ∧ fX9_boards Mb = some r := by
  obtain ⟨b, ⟨hb, rfl, rfl, -⟩, -⟩ := h
  exact ⟨nI b, rfl, rfl⟩
theorem G_board (p0 p1 : Int32) {Xb Xc Xn Cb Cc Cn Mb Mc Mn Mh My Mg} (h : RC Xb Xc Xn Cb Cc Cn Mb Mc Mn Mh My Mg) : ∃ r : Int64, fX8_board p0 p1 Xb Xc = some r ∧ fX9_board p0 p1 Mb Mc = some r := by
  obtain ⟨b, ⟨hb, rfl, rfl, hc, -⟩, -⟩ := h
  unfold fX8_board fX9_board
  rcases cell_cases p0 p1 hb with ⟨i, r, hi, hr, rfl, rfl, h8, h9⟩ | ⟨h8, h9⟩
  · rw [h8, h9]
    simp only [Option.bind_some, i10]
    rw [cell_n (by omega), ix8', rdJ_n (by omega) (by decide), (hc _ (by omega)).1]
    exact ⟨_, rfl, rfl⟩
  · rw [h8, h9]
    exact ⟨_, rfl, rfl⟩
theorem G_note (p0 p1 : Int32) {Xb Xc Xn Cb Cc Cn Mb Mc Mn Mh My Mg} (h : RC Xb Xc Xn Cb Cc Cn Mb Mc Mn Mh My Mg) : ∃ r : Int32, fX8_note p0 p1 Xb Xn = some r ∧ fX9_note p0 p1 Mb Mn = some r := by
  obtain ⟨b, ⟨hb, rfl, rfl, hc, hn, -⟩, -⟩ := h
  unfold fX8_note fX9_note
  rcases step_cases p0 hb with ⟨i, hi, rfl, c1, c2, h9⟩ | ⟨c, h9⟩
  · rw [h9, if_neg c1, steps_n (by omega)]
    simp only [Option.bind_some, i10]
    rw [if_pos c2]
    rcases rng p1 6 (by decide) with ⟨r, hr, rfl⟩ | q
    · rw [if_neg (nI_not_neg (by omega)), if_pos (lt6 hr), in9_y (by rw [nI_64 (by omega)]; exact Int.natCast_nonneg _) (by rw [nI_64 (by omega)]; show (r : Int) ≤ 5; omega), noted_n (by omega)]
      simp only [Option.bind_some, i10]
      rw [ix6', rdI_n (by omega) (by decide), hn _ (by omega)]
      exact ⟨_, rfl, rfl⟩
    · rw [in9_no (by rw [t32_to64]; show ¬ (0 ≤ p1.toInt ∧ p1.toInt ≤ 5); omega)]
      refine ⟨_, ?_, rfl⟩
      by_cases q1 : p1 < 0
      · rw [if_pos q1]
      · rw [if_neg q1, if_neg]
        rw [Int32.lt_iff_toInt_lt] at q1 ⊢
        have : ¬ p1.toInt < 0 := q1
        show ¬ p1.toInt < 6
        omega
  · rw [h9]
    refine ⟨_, ?_, rfl⟩
    rcases c with c | ⟨c1, c2⟩
    · rw [if_pos c]
    · rw [if_neg c1, steps_n (by omega)]
      simp only [Option.bind_some]
      rw [if_neg c2]
theorem hasCopy_n {b : Nat} (hb : b < 2 ^ 31) : fX1_hasCopy (nI b) = some (if b = 0 then 0 else 1) := by
  unfold fX1_hasCopy fX3_size
  simp only [Option.bind_some]
  rcases Nat.eq_zero_or_pos b with rfl | h
  · rfl
  · rw [if_pos ((nI_p hb).mpr h), if_neg (by omega)]
theorem hasCopy_0 : fX1_hasCopy (nI 0) = some 0 := rfl
theorem hasCopy_1 {b : Nat} (hb : b < 2 ^ 31) (h : 1 ≤ b) : fX1_hasCopy (nI b) = some 1 := by
  rw [hasCopy_n hb, if_neg (by omega)]
theorem take_cells (g f : Nat → Int64) : ∃ e, itr (fX3_takeFrom_L10 f) KF ((0 : Int32), g) = some e ∧ ∀ k, k < 392 → e k = f k :=
  itr_ex (f := fX3_takeFrom_L10 f) (fun m s => ∃ j, j ≤ 392 ∧ m = 392 - j ∧ s.1 = nI j ∧ ∀ k, k < j → s.2 k = f k) (fun e => ∀ k, k < 392 → e k = f k) (fun m s hI => by
    obtain ⟨x, g⟩ := s
    obtain ⟨j, hj, rfl, hx, hg⟩ := hI
    dsimp only at hx hg
    subst hx
    show (∃ e, fX3_takeFrom_L10b f (nI j) g = some (.inr e) ∧ _) ∨ ∃ j' s', j' < 392 - j ∧ fX3_takeFrom_L10b f (nI j) g = some (.inl s') ∧ _
    unfold fX3_takeFrom_L10b
    rcases Nat.lt_or_ge j 392 with h | h
    · right
      rw [if_pos (show nI j < (392 : Int32) from nI_lt (b := 392) h (by decide)), if_pos (show nI j < (392 : Int32) from nI_lt (b := 392) h (by decide)), rdJ_n h (by decide)]
      simp only [Option.bind_some]
      rw [wrJ_n _ h (by decide)]
      simp only [Option.bind_some, nI_inc]
      refine ⟨392 - (j + 1), _, by omega, rfl, j + 1, by omega, rfl, rfl, fun k hk => ?_⟩
      by_cases e : k = j
      · subst e; exact updL_at _ _ _
      · show vp_updL g j (f j) k = f k
        rw [updL_ne e]; exact hg k (by omega)
    · left
      have : j = 392 := by omega
      subst this
      rw [if_neg (by decide)]
      exact ⟨_, rfl, hg⟩) KF 392 ((0 : Int32), g) (KF_lt (by decide)) ⟨0, by omega, rfl, rfl, fun k hk => absurd hk (by omega)⟩
theorem take_notes (g f : Nat → Int32) : ∃ e, itr (fX3_takeFrom_L48 f) KF ((0 : Int32), g) = some e ∧ ∀ k, k < 288 → e k = f k :=
  itr_ex (f := fX3_takeFrom_L48 f) (fun m s => ∃ j, j ≤ 288 ∧ m = 288 - j ∧ s.1 = nI j ∧ ∀ k, k < j → s.2 k = f k) (fun e => ∀ k, k < 288 → e k = f k) (fun m s hI => by
    obtain ⟨x, g⟩ := s
    obtain ⟨j, hj, rfl, hx, hg⟩ := hI
    dsimp only at hx hg
    subst hx
    show (∃ e, fX3_takeFrom_L48b f (nI j) g = some (.inr e) ∧ _) ∨ ∃ j' s', j' < 288 - j ∧ fX3_takeFrom_L48b f (nI j) g = some (.inl s') ∧ _
    unfold fX3_takeFrom_L48b
    rcases Nat.lt_or_ge j 288 with h | h
    · right
      rw [if_pos (show nI j < (288 : Int32) from nI_lt (b := 288) h (by decide)), if_pos (show nI j < (288 : Int32) from nI_lt (b := 288) h (by decide)), rdI_n h (by decide)]
      simp only [Option.bind_some]
      rw [wrI_n _ h (by decide)]
      simp only [Option.bind_some, nI_inc]
      refine ⟨288 - (j + 1), _, by omega, rfl, j + 1, by omega, rfl, rfl, fun k hk => ?_⟩
      by_cases e : k = j
      · subst e; exact upd_at _ _ _
      · show upd g j (f j) k = f k
        rw [upd_ne e]; exact hg k (by omega)
    · left
      have : j = 288 := by omega
      subst this
      rw [if_neg (by decide)]
      exact ⟨_, rfl, hg⟩) KF 288 ((0 : Int32), g) (KF_lt (by decide)) ⟨0, by omega, rfl, rfl, fun k hk => absurd hk (by omega)⟩
theorem take_n (b0 : Int32) (c0 : Nat → Int64) (n0 : Nat → Int32) (b : Int32) (c : Nat → Int64) (n : Nat → Int32) : ∃ c' n', fX3_takeFrom b0 c0 n0 b c n = some (b, c', n') ∧ (∀ k, k < 392 → c' k = c k) ∧ ∀ k, k < 288 → n' k = n k := by
  obtain ⟨e1, h1, h2⟩ := take_cells c0 c
  obtain ⟨e2, h3, h4⟩ := take_notes n0 n
  refine ⟨e1, e2, ?_, h2, h4⟩
  unfold fX3_takeFrom
  rw [h1]
  simp only [Option.bind_some]
  unfold fX3_takeFrom_B46
  rw [h3]
  rfl
theorem nar0 : vp_nar .boolean (0 : Int32) = 0 := rfl
theorem nar1 : vp_nar .boolean (1 : Int32) = 1 := rfl
theorem copy9_loop {b : Nat} (hb : b ≤ 49) (f c0 : Nat → Int64) (g0 : Nat → Int32) : ∃ c g, itr (fX9_copy_L17 (nI b) f) KF ((0 : Int32), c0, g0) = some (c, g) ∧ ∀ k, k < 8 * b → c k = f k ∧ g k = 0 := by
  obtain ⟨e, h1, h2⟩ := itr_ex (f := fX9_copy_L17 (nI b) f) (fun m s => ∃ j, j ≤ 8 * b ∧ m = 8 * b - j ∧ s.1 = nI j ∧ ∀ k, k < j → s.2.1 k = f k ∧ s.2.2 k = 0) (fun e => ∀ k, k < 8 * b → e.1 k = f k ∧ e.2 k = 0) (fun m s hI => by
    obtain ⟨x, c, g⟩ := s
    obtain ⟨j, hj, rfl, hx, hg⟩ := hI
    dsimp only at hx hg
    subst hx
    show (∃ e, fX9_copy_L17b (nI b) f (nI j) c g = some (.inr e) ∧ _) ∨ ∃ j' s', j' < 8 * b - j ∧ fX9_copy_L17b (nI b) f (nI j) c g = some (.inl s') ∧ _
    unfold fX9_copy_L17b
    rw [show (8 : Int32) * nI b = nI (8 * b) from nI_mul 8 b]
    rcases Nat.lt_or_ge j (8 * b) with h | h
    · right
      rw [if_pos (nI_lt h (by omega)), rdJ_n (by omega) (by decide)]
      simp only [Option.bind_some]
      rw [wrJ_n _ (by omega) (by decide)]
      simp only [Option.bind_some]
      rw [wrZ_n _ (by omega) (by decide), nar0]
      simp only [Option.bind_some, nI_inc]
      refine ⟨8 * b - (j + 1), _, by omega, rfl, j + 1, by omega, rfl, rfl, fun k hk => ?_⟩
      by_cases e : k = j
      · subst e; exact ⟨updL_at _ _ _, upd_at _ _ _⟩
      · show vp_updL c j (f j) k = f k ∧ upd g j 0 k = 0
        rw [updL_ne e, upd_ne e]; exact hg k (by omega)
    · left
      have : j = 8 * b := by omega
      subst this
      rw [if_neg (nI_nlt (Nat.le_refl _) (by omega))]
      exact ⟨_, rfl, hg⟩) KF (8 * b) ((0 : Int32), c0, g0) (KF_lt (by omega)) ⟨0, by omega, rfl, rfl, fun k hk => absurd hk (by omega)⟩
  exact ⟨e.1, e.2, h1, h2⟩
theorem G_copy {Xb Xc Xn Cb Cc Cn Mb Mc Mn Mh My Mg} (h : RC Xb Xc Xn Cb Cc Cn Mb Mc Mn Mh My Mg) : ∃ (r o1 : Int32) (o2 : Nat → Int64) (o3 : Nat → Int32) (q1 : Int32) (q2 : Nat → Int64) (q3 : Nat → Int32), fX8_copy Xb Xc Xn Cb Cc Cn = some (r, o1, o2, o3) ∧ fX9_copy Mb Mh Mc My Mg = some (r, q1, q2, q3) ∧ RC Xb Xc Xn o1 o2 o3 Mb Mc Mn q1 q2 q3 := by
  obtain ⟨b, hw, hcc⟩ := id h
  obtain ⟨hb, rfl, rfl, hc, hn, hok⟩ := id hw
  unfold fX8_copy fX9_copy fX3_size
  simp only [Option.bind_some]
  rcases Nat.eq_zero_or_pos b with rfl | hpos
  · rw [if_pos (show nI 0 = (0 : Int32) from rfl), if_pos (show nI 0 = (0 : Int32) from rfl)]
    exact ⟨_, _, _, _, _, _, _, rfl, rfl, h⟩
  · have hne : ¬ nI b = (0 : Int32) := fun e => by have := (nI_z (by omega)).mp e; omega
    rw [if_neg hne, if_neg hne]
    obtain ⟨c', n', h1, h2, h3⟩ := take_n Cb Cc Cn (nI b) Xc Xn
    obtain ⟨c, g, h4, h5⟩ := copy9_loop hb Mc My Mg
    unfold fX1_copyFrom
    rw [h1, h4]
    simp only [bn3, bn2, Option.bind_some]
    rw [show nI b * (8 : Int32) = nI (b * 8) from nI_mul b 8, show (8 : Int32) * nI b = nI (8 * b) from nI_mul 8 b, Nat.mul_comm b 8]
    refine ⟨_, _, _, _, _, _, _, rfl, rfl, b, hw, Or.inr ⟨rfl, hpos, rfl, fun k hk => h3 k (by omega), fun k hk => ?_⟩⟩
    obtain ⟨k1, k2⟩ := h5 k hk
    obtain ⟨k3, k4⟩ := hc k hk
    refine ⟨by rw [k1, k3]; exact k4, Or.inl ⟨k2, ?_⟩⟩
    rw [h2 k (by omega), k1, k3]
theorem G_write (p0 p1 : Int32) (p2 : Int64) {Xb Xc Xn Cb Cc Cn Mb Mc Mn Mh My Mg} (h : RC Xb Xc Xn Cb Cc Cn Mb Mc Mn Mh My Mg) : ∃ (r : Int32) (o1 q1 : Nat → Int64) (q2 : Nat → Int32), fX8_write p0 p1 p2 Cb Cc = some (r, o1) ∧ fX9_write p0 p1 p2 Mb Mh My Mg = some (r, q1, q2) ∧ RC Xb Xc Xn Cb o1 Cn Mb Mc Mn Mh q1 q2 := by
  obtain ⟨b, hw, hcc⟩ := id h
  obtain ⟨hb, rfl, rfl, hc, hn, hok⟩ := id hw
  unfold fX8_write fX9_write
  rcases hcc with ⟨rfl, rfl⟩ | ⟨rfl, h1, rfl, hcn, hcell⟩
  · rw [hasCopy_0, if_pos rfl]
    exact ⟨_, _, _, _, rfl, rfl, h⟩
  · rw [hasCopy_1 (by omega) h1]
    simp only [Option.bind_some, i10]
    rcases cell_cases p0 p1 hb with ⟨i, r, hi, hr, rfl, rfl, h8, h9⟩ | ⟨h8, h9⟩
    · rw [h8, h9]
      simp only [Option.bind_some, i10]
      by_cases hf : Fit p2
      · rw [isBeyond_f hf, (in9_fit p2).1 hf]
        simp only [Option.bind_some, i10, if_true]
        unfold fX1_change
        obtain ⟨g1, g2⟩ := hcell (8 * i + r) (by omega)
        have fin : ∀ (o : Nat → Int64), (o = vp_updL Cc (8 * i + r) p2 ∨ o = Cc ∧ Cc (8 * i + r) = p2) → RC (nI b) Xc Xn (nI b) o Cn (nI b) Mc Mn 1 (vp_updL My (8 * i + r) p2) (upd Mg (8 * i + r) 0) := by
          intro o ho
          refine ⟨b, hw, Or.inr ⟨rfl, h1, rfl, hcn, fun k hk => ?_⟩⟩
          by_cases e : k = 8 * i + r
          · subst e
            rw [updL_at, upd_at]
            refine ⟨hf, Or.inl ⟨rfl, ?_⟩⟩
            rcases ho with rfl | ⟨rfl, ho⟩
            · exact updL_at _ _ _
            · exact ho
          · rw [updL_ne e, upd_ne e]
            obtain ⟨z1, z2⟩ := hcell k hk
            refine ⟨z1, ?_⟩
            rcases ho with rfl | ⟨rfl, ho⟩
            · rw [updL_ne e]; exact z2
            · exact z2
        rw [cell_n (by omega), ix8', rdI_n (by omega) (by decide)]
        simp only [Option.bind_some]
        have b72 : ∀ s0 : Int32, (s0 = 0 ∨ s0 = 1) → fX9_write_B72 p2 (nI (8 * i + r)) s0 My Mg = some (s0, vp_updL My (8 * i + r) p2, upd Mg (8 * i + r) 0) := by
          intro s0 hs0
          unfold fX9_write_B72
          rw [wrZ_n _ (by omega) (by decide), nar0]
          simp only [Option.bind_some]
          rw [wrJ_n _ (by omega) (by decide)]
          rcases hs0 with rfl | rfl
          · rfl
          · rfl
        have b67 : fX9_write_B67 p2 (nI (8 * i + r)) My Mg = some (1, vp_updL My (8 * i + r) p2, upd Mg (8 * i + r) 0) := b72 1 (Or.inr rfl)
        rcases g2 with ⟨m0, e0⟩ | ⟨m1, e1⟩
        · rw [m0, if_pos rfl, rdJ_n (by omega) (by decide), e0]
          simp only [Option.bind_some]
          by_cases q : My (8 * i + r) = p2
          · rw [if_pos q, if_pos q, b72 0 (Or.inl rfl)]
            exact ⟨_, _, _, _, rfl, rfl, fin _ (Or.inr ⟨rfl, by rw [e0]; exact q⟩)⟩
          · rw [if_neg q, if_neg q, b67, put_n _ (by omega)]
            exact ⟨_, _, _, _, rfl, rfl, fin _ (Or.inl rfl)⟩
        · rw [m1, i10, e1, if_neg (fun e => lost_not_fit hf e.symm), b67, put_n _ (by omega)]
          exact ⟨_, _, _, _, rfl, rfl, fin _ (Or.inl rfl)⟩
      · rw [isBeyond_n hf, (in9_fit p2).2 hf]
        exact ⟨_, _, _, _, rfl, rfl, h⟩
    · rw [h8, h9]
      exact ⟨_, _, _, _, rfl, rfl, h⟩
theorem G_gap (p0 p1 : Int32) {Xb Xc Xn Cb Cc Cn Mb Mc Mn Mh My Mg} (h : RC Xb Xc Xn Cb Cc Cn Mb Mc Mn Mh My Mg) : ∃ (r : Int32) (o1 : Nat → Int64) (q2 : Nat → Int32), fX8_gap p0 p1 Cb Cc = some (r, o1) ∧ fX9_gap p0 p1 Mb Mh Mg = some (r, q2) ∧ RC Xb Xc Xn Cb o1 Cn Mb Mc Mn Mh My q2 := by
  obtain ⟨b, hw, hcc⟩ := id h
  obtain ⟨hb, rfl, rfl, hc, hn, hok⟩ := id hw
  unfold fX8_gap fX9_gap
  rcases hcc with ⟨rfl, rfl⟩ | ⟨rfl, h1, rfl, hcn, hcell⟩
  · rw [hasCopy_0, if_pos rfl]
    exact ⟨_, _, _, rfl, rfl, h⟩
  · rw [hasCopy_1 (by omega) h1]
    simp only [Option.bind_some, i10]
    rcases cell_cases p0 p1 hb with ⟨i, r, hi, hr, rfl, rfl, h8, h9⟩ | ⟨h8, h9⟩
    · rw [h8, h9]
      simp only [Option.bind_some, i10]
      unfold fX1_change
      obtain ⟨g1, g2⟩ := hcell (8 * i + r) (by omega)
      have fin : ∀ (o : Nat → Int64), (o = vp_updL Cc (8 * i + r) LOSTv ∨ o = Cc ∧ Cc (8 * i + r) = LOSTv) → RC (nI b) Xc Xn (nI b) o Cn (nI b) Mc Mn 1 My (upd Mg (8 * i + r) 1) := by
        intro o ho
        refine ⟨b, hw, Or.inr ⟨rfl, h1, rfl, hcn, fun k hk => ?_⟩⟩
        by_cases e : k = 8 * i + r
        · subst e
          rw [upd_at]
          refine ⟨g1, Or.inr ⟨rfl, ?_⟩⟩
          rcases ho with rfl | ⟨rfl, ho⟩
          · exact updL_at _ _ _
          · exact ho
        · rw [upd_ne e]
          obtain ⟨z1, z2⟩ := hcell k hk
          refine ⟨z1, ?_⟩
          rcases ho with rfl | ⟨rfl, ho⟩
          · rw [updL_ne e]; exact z2
          · exact z2
      rw [cell_n (by omega), ix8', rdI_n (by omega) (by decide), wrZ_n _ (by omega) (by decide), nar1]
      simp only [Option.bind_some]
      rcases g2 with ⟨m0, e0⟩ | ⟨m1, e1⟩
      · rw [m0, if_pos rfl, e0, if_neg (lost_not_fit g1), put_n _ (by omega)]
        exact ⟨_, _, _, rfl, rfl, fin _ (Or.inl rfl)⟩
      · rw [m1, i10, e1, if_pos rfl]
        exact ⟨_, _, _, rfl, rfl, fin _ (Or.inr ⟨rfl, e1⟩)⟩
    · rw [h8, h9]
      exact ⟨_, _, _, rfl, rfl, h⟩
theorem G_read (p0 p1 : Int32) {Xb Xc Xn Cb Cc Cn Mb Mc Mn Mh My Mg} (h : RC Xb Xc Xn Cb Cc Cn Mb Mc Mn Mh My Mg) : ∃ r : Int64, fX8_read p0 p1 Cb Cc = some r ∧ fX9_read p0 p1 Mb Mh My Mg = some r := by
  obtain ⟨b, hw, hcc⟩ := id h
  obtain ⟨hb, rfl, rfl, hc, hn, hok⟩ := id hw
  unfold fX8_read fX9_read
  rcases hcc with ⟨rfl, rfl⟩ | ⟨rfl, h1, rfl, hcn, hcell⟩
  · rw [hasCopy_0, if_pos rfl]
    exact ⟨_, rfl, rfl⟩
  · rw [hasCopy_1 (by omega) h1]
    simp only [Option.bind_some, i10]
    rcases cell_cases p0 p1 hb with ⟨i, r, hi, hr, rfl, rfl, h8, h9⟩ | ⟨h8, h9⟩
    · rw [h8, h9]
      simp only [Option.bind_some, i10]
      obtain ⟨g1, g2⟩ := hcell (8 * i + r) (by omega)
      rw [cell_n (by omega), ix8', rdI_n (by omega) (by decide)]
      simp only [Option.bind_some]
      rcases g2 with ⟨m0, e0⟩ | ⟨m1, e1⟩
      · rw [m0, if_pos rfl, rdJ_n (by omega) (by decide), e0, if_neg (lost_not_fit g1)]
        exact ⟨_, rfl, rfl⟩
      · rw [m1, i10, e1, if_pos rfl]
        exact ⟨_, rfl, rfl⟩
    · rw [h8, h9]
      exact ⟨_, rfl, rfl⟩
