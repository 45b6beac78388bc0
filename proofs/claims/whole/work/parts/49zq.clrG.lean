/-! ===== clearing: kind, turns, cleared, free ===== -/
theorem RD_told {Xn Xm : Int32} {g : Nat → Int32} {Mn Mm : Int32} {tl : Nat → Int32} (h : RD Xn Xm g Mn Mm tl) : ∃ (n m : Nat) (A : Nat → Nat → Int), 1 ≤ n ∧ n ≤ 4 ∧ 1 ≤ m ∧ m ≤ 5 ∧ Xn = nI n ∧ Xm = nI m ∧ Mn = nI n ∧ Mm = nI m ∧ (∀ c, c < 25 → tl c = g c) ∧ Told n A ∧ ∀ j, j < 5 → ∀ i, i ≤ n → (g (5 * j + i)).toInt = A j i := by
  obtain ⟨n, m, n1, n4, m1, m5, e1, e2, e3, e4, h1, h2⟩ := h
  refine ⟨n, m, fun j i => (g (5 * j + i)).toInt, n1, n4, m1, m5, e1, e2, e3, e4, h1, fun j hj i hi => ?_, fun _ _ _ _ => rfl⟩
  obtain ⟨q1, q2⟩ := h2 j hj
  show (g (5 * j + i)).toInt.natAbs ≤ wW n i
  unfold wW
  by_cases c : i < n
  · rw [if_pos c]; exact q1 i c
  · have : i = n := by omega
    subst this
    rw [if_neg c]; exact q2
theorem kindL {n m t : Nat} (hn : n ≤ 4) (hm : m ≤ 5) (ht : t ≤ m) {X M : Nat → Int64} (hXM : ∀ c, c < 25 → M c = X c) (tk b : Int32) (fm : Nat → Int32) : (itr (fX0_kindOfAnswer_L5 (nI n) (nI m) X) KF (nI t) = some (.inl ()) ∧ itr (fX9_kindOf_L9 (nI n) (nI m) tk (nI t) b M fm) KF (nI t) = some (.inl ())) ∨ (itr (fX0_kindOfAnswer_L5 (nI n) (nI m) X) KF (nI t) = some (.inr 0) ∧ itr (fX9_kindOf_L9 (nI n) (nI m) tk (nI t) b M fm) KF (nI t) = some (.inr (0, tk, nI t, b, M, fm))) := by
  obtain ⟨e, e', h1, h2, h3⟩ := itr_rel (f := fX0_kindOfAnswer_L5 (nI n) (nI m) X) (g := fX9_kindOf_L9 (nI n) (nI m) tk (nI t) b M fm)
    (fun u s r => ∃ j, t ≤ j ∧ j ≤ m ∧ u = m - j ∧ s = nI j ∧ r = nI j)
    (fun e e' => (e = .inl () ∧ e' = .inl ()) ∨ (e = .inr 0 ∧ e' = .inr (0, tk, nI t, b, M, fm)))
    (fun u s r hI => by
      obtain ⟨j, hj1, hj2, rfl, rfl, rfl⟩ := hI
      show (∃ e e', fX0_kindOfAnswer_L5b (nI n) (nI m) X (nI j) = some (.inr e) ∧ fX9_kindOf_L9b (nI n) (nI m) tk (nI t) b M fm (nI j) = some (.inr e') ∧ _) ∨ ∃ m' s' r', m' < m - j ∧ fX0_kindOfAnswer_L5b (nI n) (nI m) X (nI j) = some (.inl s') ∧ fX9_kindOf_L9b (nI n) (nI m) tk (nI t) b M fm (nI j) = some (.inl r') ∧ _
      unfold fX0_kindOfAnswer_L5b fX9_kindOf_L9b
      rcases Nat.lt_or_ge j m with hlt | hge
      · rw [if_pos (nI_lt hlt (by omega)), if_pos (nI_lt hlt (by omega)), cell5 (by omega), ix5', rdJ_n (by omega) (by decide), hXM _ (by omega)]
        simp only [Option.bind_some]
        by_cases z : X (5 * j + n) = (0 : Int64)
        · right
          rw [if_pos z, if_pos z, nI_inc]
          exact ⟨m - (j + 1), _, _, by omega, rfl, rfl, j + 1, by omega, by omega, rfl, rfl, rfl⟩
        · left
          rw [if_neg z, if_neg z]
          exact ⟨_, _, rfl, rfl, Or.inr ⟨rfl, rfl⟩⟩
      · left
        have : j = m := by omega
        subst this
        rw [if_neg (nI_nlt (Nat.le_refl _) (by omega)), if_neg (nI_nlt (Nat.le_refl _) (by omega))]
        exact ⟨_, _, rfl, rfl, Or.inl ⟨rfl, rfl⟩⟩) KF (m - t) (nI t) (nI t) (KF_lt (by omega)) ⟨t, Nat.le_refl _, ht, rfl, rfl, rfl⟩
  rcases h3 with ⟨rfl, rfl⟩ | ⟨rfl, rfl⟩
  · exact Or.inl ⟨h1, h2⟩
  · exact Or.inr ⟨h1, h2⟩
/-- clearing and its kind, both ways -/
theorem kind_n {n m : Nat} (hn1 : 1 ≤ n) (hn : n ≤ 4) (hm1 : 1 ≤ m) (hm : m ≤ 5) {A : Nat → Nat → Int} (hA : Told n A) {g tl : Nat → Int32} (hg : ∀ c, c < 25 → tl c = g c) (hgA : ∀ j, j < 5 → ∀ i, i ≤ n → (g (5 * j + i)).toInt = A j i) (a1 a2 : Int32) (X0 : Nat → Int64) (fr0 : Nat → Int32) (b1 b2 b3 : Int32) (M0 : Nat → Int64) (fm0 : Nat → Int32) : ∃ r tk t b X' fr M' fm F C, fX0_clear (nI n) (nI m) a1 a2 g X0 fr0 = some (tk, nI t, X', fr) ∧ fX0_kindOfAnswer (nI n) (nI m) (nI t) X' = some r ∧ fX9_kindOf (nI n) (nI m) b1 b2 b3 tl M0 fm0 = some (r, tk, nI t, nI b, M', fm) ∧ (∀ q, q < 5 → fm q = nI (F q)) ∧ CL n m A F C n t b X' fr ∧ (r = 1 → t = n) := by
  obtain ⟨tk, t, b, X', fr, M', fm, F, C, c1, c2, c3, c4, c5⟩ := clear_n hn1 hn hm1 hm hA hg hgA a1 a2 X0 fr0 b1 b2 b3 M0 fm0
  have htm : t ≤ m := c5.2.1
  have hb : b < 2 ^ n := c5.2.2.2.2.2.1
  have h2n : 2 ^ n ≤ 2 ^ 4 := Nat.pow_le_pow_right (by decide) hn
  have h16 : (2 : Nat) ^ 4 = 16 := rfl
  have htn : t ≤ n := c5.1
  have hbt : b = 0 ∧ t = n ∨ b ≠ 0 ∧ t < n := by
    rcases c5.2.2.2.2.2.2.2.1 with ⟨q1, q2, -⟩ | q
    · exact Or.inl ⟨q1, q2⟩
    · exact Or.inr q
  have key : ∃ r, fX0_kindOfAnswer (nI n) (nI m) (nI t) X' = some r ∧ fX9_kindOf (nI n) (nI m) b1 b2 b3 tl M0 fm0 = some (r, tk, nI t, nI b, M', fm) ∧ (r = 1 → t = n) := by
    unfold fX0_kindOfAnswer fX9_kindOf
    rw [c2]
    simp only [bn5, Option.bind_some]
    rcases kindL hn hm htm c3 tk (nI b) fm with ⟨k1, k2⟩ | ⟨k1, k2⟩
    · rw [k1, k2]
      simp only [Option.bind_some, Sum.elim_inl]
      rcases hbt with ⟨e1, e2⟩ | ⟨e1, e2⟩
      · rw [if_pos (by rw [e2]), if_pos (show nI b = (0 : Int32) by rw [e1]; rfl)]
        exact ⟨1, rfl, rfl, fun _ => e2⟩
      · rw [if_neg (nI_ne (by omega) (by omega) (by omega)), if_neg (fun q => e1 ((nI_z (by omega)).mp q))]
        exact ⟨2, rfl, rfl, fun q => absurd q (by decide)⟩
    · rw [k1, k2]
      exact ⟨0, rfl, rfl, fun q => absurd q (by decide)⟩
  obtain ⟨r, r1, r2, r3⟩ := key
  exact ⟨r, tk, t, b, X', fr, M', fm, F, C, c1, r1, r2, c4, c5, r3⟩
theorem G_kind {Xn Xm g Mn Mm tl} (h : RD Xn Xm g Mn Mm tl) (a1 a2 : Int32) (X0 : Nat → Int64) (fr0 : Nat → Int32) (b1 b2 b3 : Int32) (M0 : Nat → Int64) (fm0 : Nat → Int32) : ∃ (r o1 o2 : Int32) (o3 : Nat → Int64) (o4 : Nat → Int32) (q1 q2 q3 : Int32) (q4 : Nat → Int64) (q5 : Nat → Int32), fX8_kind Xn Xm a1 a2 g X0 fr0 = some (r, o1, o2, o3, o4) ∧ fX9_kind Mn Mm b1 b2 b3 tl M0 fm0 = some (r, q1, q2, q3, q4, q5) := by
  obtain ⟨n, m, A, n1, n4, m1, m5, rfl, rfl, rfl, rfl, h1, h2, h3⟩ := RD_told h
  obtain ⟨r, tk, t, b, X', fr, M', fm, F, C, k1, k2, k3, -⟩ := kind_n n1 n4 m1 m5 h2 h1 h3 a1 a2 X0 fr0 b1 b2 b3 M0 fm0
  unfold fX8_kind fX9_kind
  rw [k1, k3]
  simp only [bn4, bn6, Option.bind_some]
  rw [k2]
  exact ⟨_, _, _, _, _, _, _, _, _, _, rfl, rfl⟩
theorem G_turns {Xn Xm g Mn Mm tl} (h : RD Xn Xm g Mn Mm tl) (a1 a2 : Int32) (X0 : Nat → Int64) (fr0 : Nat → Int32) (b1 b2 b3 : Int32) (M0 : Nat → Int64) (fm0 : Nat → Int32) : ∃ (r o1 o2 : Int32) (o3 : Nat → Int64) (o4 : Nat → Int32) (q1 q2 q3 : Int32) (q4 : Nat → Int64) (q5 : Nat → Int32), fX8_turns Xn Xm a1 a2 g X0 fr0 = some (r, o1, o2, o3, o4) ∧ fX9_turns Mn Mm b1 b2 b3 tl M0 fm0 = some (r, q1, q2, q3, q4, q5) := by
  obtain ⟨n, m, A, n1, n4, m1, m5, rfl, rfl, rfl, rfl, h1, h2, h3⟩ := RD_told h
  obtain ⟨tk, t, b, X', fr, M', fm, F, C, c1, c2, -⟩ := clear_n n1 n4 m1 m5 h2 h1 h3 a1 a2 X0 fr0 b1 b2 b3 M0 fm0
  unfold fX8_turns fX9_turns
  rw [c1, c2]
  exact ⟨_, _, _, _, _, _, _, _, _, _, rfl, rfl⟩
theorem G_cleared (p0 p1 : Int32) {Xn Xm g Mn Mm tl} (h : RD Xn Xm g Mn Mm tl) (a1 a2 : Int32) (X0 : Nat → Int64) (fr0 : Nat → Int32) (b1 b2 b3 : Int32) (M0 : Nat → Int64) (fm0 : Nat → Int32) : ∃ (r : Int64) (o1 o2 : Int32) (o3 : Nat → Int64) (o4 : Nat → Int32) (q1 q2 q3 : Int32) (q4 : Nat → Int64) (q5 : Nat → Int32), fX8_cleared p0 p1 Xn Xm a1 a2 g X0 fr0 = some (r, o1, o2, o3, o4) ∧ fX9_cleared p0 p1 Mn Mm b1 b2 b3 tl M0 fm0 = some (r, q1, q2, q3, q4, q5) := by
  obtain ⟨n, m, A, n1, n4, m1, m5, rfl, rfl, rfl, rfl, h1, h2, h3⟩ := RD_told h
  obtain ⟨tk, t, b, X', fr, M', fm, F, C, c1, c2, c3, -⟩ := clear_n n1 n4 m1 m5 h2 h1 h3 a1 a2 X0 fr0 b1 b2 b3 M0 fm0
  unfold fX8_cleared fX9_cleared
  rcases hasU_cases p0 p1 ⟨n1, n4⟩ ⟨m1, m5⟩ with ⟨j, k, hj, hk, rfl, rfl, u1, u2, u3⟩ | ⟨u1, u2⟩
  · rw [u1, u2]
    simp only [Option.bind_some, i10]
    rw [u3, c1, c2]
    simp only [Option.bind_some, i10, bn4, bn5]
    rw [cell5 (by omega), ix5', rdJ_n (by omega) (by decide), c3 _ (by omega)]
    exact ⟨_, _, _, _, _, _, _, _, _, _, rfl, rfl⟩
  · rw [u1]
    rcases u2 with u2 | ⟨u2, u3⟩
    · rw [u2]
      exact ⟨_, _, _, _, _, _, _, _, _, _, rfl, rfl⟩
    · rw [u2]
      simp only [Option.bind_some, i10]
      rw [u3]
      exact ⟨_, _, _, _, _, _, _, _, _, _, rfl, rfl⟩
theorem isU_cases (p0 : Int32) {n : Nat} (hn : 1 ≤ n ∧ n ≤ 4) : (∃ k, k < n ∧ p0 = nI k ∧ fX0_isUnknown p0 (nI n) = some 1 ∧ fX9_in p0.toInt64 (0 : Int64) ((nI n - (1 : Int32)).toInt64) = some 1) ∨ (fX0_isUnknown p0 (nI n) = some 0 ∧ fX9_in p0.toInt64 (0 : Int64) ((nI n - (1 : Int32)).toInt64) = some 0) := by
  have f0 : (0 : Int64).toInt = 0 := rfl
  have em : ((nI n - (1 : Int32)).toInt64).toInt = (n : Int) - 1 := by rw [nI_b1 hn.1, nI_64 (by omega)]; omega
  unfold fX0_isUnknown
  rcases rng p0 n (by omega) with ⟨k, hk, rfl⟩ | q
  · left
    rw [if_neg (nI_not_neg (by omega)), if_pos (nI_lt hk (by omega)), in9_y (by rw [nI_64 (by omega), f0]; omega) (by rw [nI_64 (by omega), em]; omega)]
    exact ⟨k, hk, rfl, rfl, rfl⟩
  · right
    refine ⟨?_, in9_no (by rw [t32_to64, f0, em]; omega)⟩
    by_cases q1 : p0 < 0
    · rw [if_pos q1]
    · rw [if_neg q1, if_neg]
      rw [Int32.lt_iff_toInt_lt] at q1 ⊢
      rw [nI_toInt (by omega)]
      have : ¬ p0.toInt < 0 := q1
      omega
theorem G_free (p0 : Int32) {Xn Xm g Mn Mm tl} (h : RD Xn Xm g Mn Mm tl) (a1 a2 : Int32) (X0 : Nat → Int64) (fr0 : Nat → Int32) (b1 b2 b3 : Int32) (M0 : Nat → Int64) (fm0 : Nat → Int32) : ∃ (r o1 o2 : Int32) (o3 : Nat → Int64) (o4 : Nat → Int32) (q1 q2 q3 : Int32) (q4 : Nat → Int64) (q5 : Nat → Int32), fX8_free p0 Xn Xm a1 a2 g X0 fr0 = some (r, o1, o2, o3, o4) ∧ fX9_free p0 Mn Mm b1 b2 b3 tl M0 fm0 = some (r, q1, q2, q3, q4, q5) := by
  obtain ⟨n, m, A, n1, n4, m1, m5, rfl, rfl, rfl, rfl, h1, h2, h3⟩ := RD_told h
  obtain ⟨tk, t, b, X', fr, M', fm, F, C, c1, c2, c3, c4, c5⟩ := clear_n n1 n4 m1 m5 h2 h1 h3 a1 a2 X0 fr0 b1 b2 b3 M0 fm0
  have hb : b < 2 ^ n := c5.2.2.2.2.2.1
  have h2n : 2 ^ n ≤ 2 ^ 4 := Nat.pow_le_pow_right (by decide) n4
  have h16 : (2 : Nat) ^ 4 = 16 := rfl
  unfold fX8_free fX9_free
  rcases isU_cases p0 ⟨n1, n4⟩ with ⟨k, hk, rfl, u1, u2⟩ | ⟨u1, u2⟩
  · have hfr := c5.2.2.2.2.2.2.1 k hk
    have h2 : b / 2 ^ k % 2 < 2 := Nat.mod_lt _ (by decide)
    rw [u1, u2, c1, c2]
    simp only [Option.bind_some, i10, bn4, bn5]
    unfold fX0_isFree
    rw [if_neg (nI_not_neg (by omega)), if_pos (show nI k < (4 : Int32) from nI_lt (b := 4) (by omega) (by decide)), rdI_n (by omega) (by decide), hfr, bits_rd k (by omega) b (by omega)]
    simp only [Option.bind_some]
    rcases (show b / 2 ^ k % 2 = 0 ∨ b / 2 ^ k % 2 = 1 by omega) with e | e
    · rw [e]
      exact ⟨_, _, _, _, _, _, _, _, _, _, rfl, rfl⟩
    · rw [e]
      exact ⟨_, _, _, _, _, _, _, _, _, _, rfl, rfl⟩
  · rw [u1, u2]
    exact ⟨_, _, _, _, _, _, _, _, _, _, rfl, rfl⟩
