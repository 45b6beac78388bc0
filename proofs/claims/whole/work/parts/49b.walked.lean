def NoteV (N : Nat → Int32) (i k a p : Nat) (d : Int) (b c : Nat) : Prop := N (6 * i) = nI k ∧ N (6 * i + 1) = nI a ∧ N (6 * i + 2) = nI p ∧ (N (6 * i + 3)).toInt = d ∧ a < 8 ∧ p < 12 ∧ d.natAbs ≤ 81 ∧ (k = 0 ∨ k = 1 ∨ k = 5 ∨ (1 ≤ d ∧ d ≤ 9 ∧ b < 8 ∧ b ≠ a ∧ N (6 * i + 4) = nI b ∧ (k = 2 ∧ c < 8 ∧ c ≠ a ∧ c ≠ b ∧ N (6 * i + 5) = nI c ∨ k = 3 ∧ p < 6 ∨ k = 4 ∧ p < 4)))
theorem NoteOk_V {N : Nat → Int32} {i : Nat} (h : NoteOk N i) : ∃ k a p d b c, NoteV N i k a p d b c := by
  obtain ⟨k, a, p, d, h0, h1, h2, h3, ha, hp, d1, d2, hk⟩ := h
  rcases hk with hk | hk | hk | ⟨e1, e2, b, hb, hba, h4, hk⟩
  · exact ⟨k, a, p, d, 0, 0, h0, h1, h2, h3, ha, hp, by omega, Or.inl hk⟩
  · exact ⟨k, a, p, d, 0, 0, h0, h1, h2, h3, ha, hp, by omega, Or.inr (Or.inl hk)⟩
  · exact ⟨k, a, p, d, 0, 0, h0, h1, h2, h3, ha, hp, by omega, Or.inr (Or.inr (Or.inl hk))⟩
  · rcases hk with ⟨rfl, c, hc, hca, hcb, h5⟩ | ⟨rfl, hp6⟩ | ⟨rfl, hp4⟩
    · exact ⟨2, a, p, d, b, c, h0, h1, h2, h3, ha, hp, by omega, Or.inr (Or.inr (Or.inr ⟨e1, e2, hb, hba, h4, Or.inl ⟨rfl, hc, hca, hcb, h5⟩⟩))⟩
    · exact ⟨3, a, p, d, b, 0, h0, h1, h2, h3, ha, hp, by omega, Or.inr (Or.inr (Or.inr ⟨e1, e2, hb, hba, h4, Or.inr (Or.inl ⟨rfl, hp6⟩)⟩))⟩
    · exact ⟨4, a, p, d, b, 0, h0, h1, h2, h3, ha, hp, by omega, Or.inr (Or.inr (Or.inr ⟨e1, e2, hb, hba, h4, Or.inr (Or.inr ⟨rfl, hp4⟩)⟩))⟩
def mI (d : Int) (p : Nat) : Int := d * ((10 ^ p : Nat) : Int)
theorem mI_small {d : Int} {p q : Nat} (h1 : 1 ≤ d) (h2 : d ≤ 9) (h : p ≤ q) : 0 ≤ mI d p ∧ mI d p ≤ 9 * ((10 ^ q : Nat) : Int) := by
  have h3 : (10 : Nat) ^ p ≤ 10 ^ q := Nat.pow_le_pow_right (by decide) h
  unfold mI
  constructor
  · exact Int.mul_nonneg (by omega) (Int.natCast_nonneg _)
  · exact Int.mul_le_mul h2 (by omega) (Int.natCast_nonneg _) (by decide)
theorem wok_of {k a : Nat} {m : Int} {b : Nat} {f : Nat → Int} {r : Nat} (h : r ≠ a ∨ k = 0 ∨ k = 1 ∨ k = 5) : wok k a m b f r := by
  intro e
  rcases h with h | h | h | h
  · exact absurd e h
  · exact ⟨fun q => by omega, fun q => by omega⟩
  · exact ⟨fun q => by omega, fun q => by omega⟩
  · exact ⟨fun q => by omega, fun q => by omega⟩
theorem walked_n {N : Nat → Int32} {C : Nat → Int64} {i k a p : Nat} {d : Int} {b c : Nat} (hi : i < 48) (hN : NoteV N i k a p d b c) (hC : ∀ r, r < 8 → Fit (C (8 * i + r))) {r : Nat} (hr : r < 8) : ∃ z, fX3_walked (nI i) (nI r) C N = some z ∧ Res z (wval k a (mI d p) b c (fun r => (C (8 * i + r)).toInt) r) (wok k a (mI d p) b (fun r => (C (8 * i + r)).toInt) r) := by
  obtain ⟨h0, h1, h2, h3, ha, hp, hd, hk⟩ := hN
  obtain ⟨m1, m2⟩ := more_ok h3 hd hp
  have hk6 : k < 6 := by omega
  have hfr := hC r hr
  have hfr' := fit_abs.mp hfr
  have c0 : fX3_noted (nI i) (0 : Int32) N = some (nI k) := by rw [← h0]; exact noted_n (r := 0) (by omega)
  have c1 : fX3_noted (nI i) (1 : Int32) N = some (nI a) := by rw [← h1]; exact noted_n (r := 1) (by omega)
  have c2 : fX3_noted (nI i) (2 : Int32) N = some (nI p) := by rw [← h2]; exact noted_n (r := 2) (by omega)
  have c3 : fX3_noted (nI i) (3 : Int32) N = some (N (6 * i + 3)) := noted_n (r := 3) (by omega)
  have gr := grown_n hi h0 hk6
  have hmm : ((N (6 * i + 3)).toInt64 * tensF p).toInt = mI d p := m1
  have hma : (mI d p).natAbs ≤ 8100000000000 := m2
  have hvm : (C (8 * i + r) + (N (6 * i + 3)).toInt64 * tensF p).toInt = (C (8 * i + r)).toInt + mI d p := by
    rw [t64_add] <;> rw [hmm] <;> omega
  unfold fX3_walked
  rw [cell_n (by omega), c0, c1]
  simp only [Option.bind_some]
  -- B30, first with the flag
  have B : ∀ s0 : Int32, (r = a → s0 = 1) → (r ≠ a → s0 = 0) → ∃ z, fX3_walked_B30 (nI i) (nI r) (C (8 * i + r)) (nI k) s0 C N = some z ∧ Res z (wval k a (mI d p) b c (fun r => (C (8 * i + r)).toInt) r) (wok k a (mI d p) b (fun r => (C (8 * i + r)).toInt) r) := by
    intro s0 hs1 hs0
    unfold fX3_walked_B30
    rw [c3, c2, gr]
    simp only [Option.bind_some]
    rw [tenTo8 p hp]
    simp only [Option.bind_some]
    rcases hk with rfl | rfl | rfl | ⟨d1, d9, hb, hba, h4, hk⟩
    · rw [if_neg (show ¬ nI 0 = (5 : Int32) by decide), if_pos (show (0 : Nat) ≤ 1 by decide), h1]
      have e : wval 0 a (mI d p) b c (fun r => (C (8 * i + r)).toInt) r = if r = a then (C (8 * i + r)).toInt + mI d p else (C (8 * i + r)).toInt := rfl
      rw [e]
      by_cases q : r = a
      · rw [if_pos (by rw [q]), if_pos q]
        exact chk_ok hvm (wok_of (Or.inr (Or.inl rfl)))
      · rw [if_neg (nI_ne q (by omega) (by omega)), if_neg q, hs0 q, if_pos rfl]
        exact chk_ok rfl (wok_of (Or.inl q))
    · rw [if_neg (show ¬ nI 1 = (5 : Int32) by decide), if_pos (show (1 : Nat) ≤ 1 by decide), h1]
      have e : wval 1 a (mI d p) b c (fun r => (C (8 * i + r)).toInt) r = if r = a then (C (8 * i + r)).toInt + mI d p else (C (8 * i + r)).toInt := rfl
      rw [e]
      by_cases q : r = a
      · rw [if_pos (by rw [q]), if_pos q]
        exact chk_ok hvm (wok_of (Or.inr (Or.inr (Or.inl rfl))))
      · rw [if_neg (nI_ne q (by omega) (by omega)), if_neg q, hs0 q, if_pos rfl]
        exact chk_ok rfl (wok_of (Or.inl q))
    · rw [if_pos (show nI 5 = (5 : Int32) from rfl)]
      have e : wval 5 a (mI d p) b c (fun r => (C (8 * i + r)).toInt) r = if r = a then 0 else (C (8 * i + r)).toInt := rfl
      rw [e]
      by_cases q : r = a
      · rw [hs1 q, if_neg (by decide), if_pos q]
        exact ⟨0, rfl, Or.inl ⟨wok_of (Or.inr (Or.inr (Or.inr rfl))), by decide, rfl⟩⟩
      · rw [hs0 q, if_pos rfl, if_neg q]
        exact ⟨_, rfl, Or.inl ⟨wok_of (Or.inl q), hfr', rfl⟩⟩
    · have hk34 : k = 2 ∨ k = 3 ∨ k = 4 := by omega
      have hfb := hC b hb
      have hmore : ((N (6 * i + 3)).toInt64 * tensF p).toInt.natAbs ≤ 900000000000 := by
        rw [hmm]
        have := mI_small d1 d9 (show p ≤ 11 by omega)
        omega
      have hm4 : k = 4 → 0 ≤ ((N (6 * i + 3)).toInt64 * tensF p).toInt ∧ ((N (6 * i + 3)).toInt64 * tensF p).toInt ≤ 9000 := by
        intro q
        rw [hmm]
        have := mI_small d1 d9 (show p ≤ 3 by omega)
        omega
      obtain ⟨z, hz, hzz⟩ := lessened_n hi hb h0 h4 hk34 hfb hmore hm4
      rw [hmm] at hzz
      rw [if_neg (show ¬ nI k = (5 : Int32) from nI_ne (b := 5) (by omega) (by omega) (by decide))]
      -- the row that grows
      obtain ⟨g, hg, hga, hgr, hwg⟩ : ∃ g, g < 8 ∧ g ≠ a ∧ (if k ≤ 1 then N (6 * i + 1) else if k = 2 then N (6 * i + 5) else N (6 * i + 4)) = nI g ∧ ∀ f : Nat → Int, wval k a (mI d p) b c f r = (if r = g then f r + mI d p else if r = a then f r - (if k = 2 then mI d p * f b else pwI k (f b + mI d p) - pwI k (f b)) else f r) := by
        rcases hk with ⟨rfl, hc, hca, hcb, h5⟩ | ⟨rfl, hp6⟩ | ⟨rfl, hp4⟩
        · exact ⟨c, hc, hca, h5, fun f => rfl⟩
        · exact ⟨b, hb, hba, h4, fun f => rfl⟩
        · exact ⟨b, hb, hba, h4, fun f => rfl⟩
      rw [hgr, hwg]
      by_cases q1 : r = g
      · rw [if_pos (by rw [q1]), if_pos q1]
        exact chk_ok hvm (wok_of (Or.inl (by omega)))
      · rw [if_neg (nI_ne q1 (by omega) (by omega)), if_neg q1]
        by_cases q2 : r = a
        · rw [hs1 q2, if_neg (by decide), if_pos q2, hz]
          simp only [Option.bind_some]
          have good : ∀ L : Int, Fit z → z.toInt = L → wok k a (mI d p) b (fun r => (C (8 * i + r)).toInt) r → ∃ z', (Option.bind (fX5_isBeyond z) fun r_28 => if r_28 = (0 : Int32) then Option.bind (fX5_isBeyond (C (8 * i + r) - z)) fun r_31 => if r_31 = (0 : Int32) then some (C (8 * i + r) - z) else some (-1000000000000000 : Int64) else some (-1000000000000000 : Int64)) = some z' ∧ Res z' ((C (8 * i + r)).toInt - L) (wok k a (mI d p) b (fun r => (C (8 * i + r)).toInt) r) := by
            intro L hzf hzL hw
            have hzf' := fit_abs.mp hzf
            rw [isBeyond_f hzf]
            exact chk_ok (by rw [t64_sub] <;> omega) hw
          have bad : z = LOSTv → ¬ wok k a (mI d p) b (fun r => (C (8 * i + r)).toInt) r → ∀ L : Int, ∃ z', (Option.bind (fX5_isBeyond z) fun r_28 => if r_28 = (0 : Int32) then Option.bind (fX5_isBeyond (C (8 * i + r) - z)) fun r_31 => if r_31 = (0 : Int32) then some (C (8 * i + r) - z) else some (-1000000000000000 : Int64) else some (-1000000000000000 : Int64)) = some z' ∧ Res z' ((C (8 * i + r)).toInt - L) (wok k a (mI d p) b (fun r => (C (8 * i + r)).toInt) r) := by
            intro hzl hw L
            rw [hzl, isBeyond_n (fun h => lost_not_fit h rfl)]
            exact ⟨LOSTv, rfl, Or.inr ⟨fun h => hw h.1, rfl⟩⟩
          rcases hzz with ⟨rfl, hzz⟩ | ⟨hk34', hzz⟩
          · rw [if_pos rfl]
            rcases hzz with ⟨z1, z2⟩ | ⟨z1, z2⟩
            · exact good _ (fit_abs.mpr (by rw [z2]; exact z1)) z2 (fun _ => ⟨fun _ => z1, fun h => by omega⟩)
            · exact bad z2 (fun h => z1 ((h q2).1 rfl)) _
          · rw [if_neg (by omega)]
            rcases hzz with ⟨z1, z2, z3, z4⟩ | ⟨z1, z2⟩
            · exact good _ (fit_abs.mpr z4) z3 (fun _ => ⟨fun h => by omega, fun _ => ⟨z1, z2⟩⟩)
            · exact bad z2 (fun h => z1 ((h q2).2 hk34')) _
        · rw [hs0 q2, if_pos rfl, if_neg q2]
          exact chk_ok rfl (wok_of (Or.inl q2))
  by_cases q : r = a
  · rw [if_pos (by rw [q])]
    exact B 1 (fun _ => rfl) (fun h => absurd q h)
  · rw [if_neg (nI_ne q (by omega) (by omega))]
    exact B 0 (fun h => absurd h q) (fun _ => rfl)
