/-! ===== workings: begin and end ===== -/
theorem begin8_loop (f g : Nat → Int64) : ∃ e, itr (fX3_begin_L7 f) KF ((0 : Int32), g) = some e ∧ ∀ k, k < 8 → e k = f k :=
  itr_ex (f := fX3_begin_L7 f) (fun m s => ∃ j, j ≤ 8 ∧ m = 8 - j ∧ s.1 = nI j ∧ ∀ k, k < j → s.2 k = f k) (fun e => ∀ k, k < 8 → e k = f k) (fun m s hI => by
    obtain ⟨x, g⟩ := s
    obtain ⟨j, hj, rfl, hx, hg⟩ := hI
    dsimp only at hx hg
    subst hx
    show (∃ e, fX3_begin_L7b f (nI j) g = some (.inr e) ∧ _) ∨ ∃ j' s', j' < 8 - j ∧ fX3_begin_L7b f (nI j) g = some (.inl s') ∧ _
    unfold fX3_begin_L7b
    rcases Nat.lt_or_ge j 8 with h | h
    · right
      have hp : fX3_put (0 : Int32) (nI j) (f j) g = some (vp_updL g (8 * 0 + j) (f j)) := put_n (i := 0) (f j) (by omega)
      have u : ∀ k, k < j + 1 → vp_updL g (8 * 0 + j) (f j) k = f k := fun k hk => by
        by_cases e : k = j
        · subst e; rw [Nat.mul_zero, Nat.zero_add, updL_at]
        · rw [updL_ne (by omega)]; exact hg k (by omega)
      rw [if_pos (lt8 h), rdJ_n h (by decide)]
      simp only [Option.bind_some]
      rw [hp]
      simp only [Option.bind_some, nI_inc]
      exact ⟨8 - (j + 1), _, by omega, rfl, j + 1, by omega, rfl, rfl, u⟩
    · left
      have : j = 8 := by omega
      subst this
      rw [if_neg (by decide)]
      exact ⟨_, rfl, hg⟩) KF 8 ((0 : Int32), g) (KF_lt (by decide)) ⟨0, by omega, rfl, rfl, fun k hk => absurd hk (by omega)⟩
theorem begin9_loop (f h0 n0 : Nat → Int64) : ∃ a b, itr (fX9_beginWork_L2 f) KF ((0 : Int32), h0, n0) = some (a, b) ∧ ∀ k, k < 8 → a k = f k ∧ b k = f k := by
  obtain ⟨e, h1, h2⟩ := itr_ex (f := fX9_beginWork_L2 f) (fun m s => ∃ j, j ≤ 8 ∧ m = 8 - j ∧ s.1 = nI j ∧ ∀ k, k < j → s.2.1 k = f k ∧ s.2.2 k = f k) (fun e => ∀ k, k < 8 → e.1 k = f k ∧ e.2 k = f k) (fun m s hI => by
    obtain ⟨x, g, g'⟩ := s
    obtain ⟨j, hj, rfl, hx, hg⟩ := hI
    dsimp only at hx hg
    subst hx
    show (∃ e, fX9_beginWork_L2b f (nI j) g g' = some (.inr e) ∧ _) ∨ ∃ j' s', j' < 8 - j ∧ fX9_beginWork_L2b f (nI j) g g' = some (.inl s') ∧ _
    unfold fX9_beginWork_L2b
    rcases Nat.lt_or_ge j 8 with h | h
    · right
      have u : ∀ k, k < j + 1 → vp_updL g j (f j) k = f k ∧ vp_updL g' j (f j) k = f k := fun k hk => by
        by_cases e : k = j
        · subst e; rw [updL_at, updL_at]; exact ⟨rfl, rfl⟩
        · rw [updL_ne e, updL_ne e]; exact hg k (by omega)
      rw [if_pos (lt8 h), rdJ_n h (by decide)]
      simp only [Option.bind_some]
      rw [wrJ_n _ h (by decide)]
      simp only [Option.bind_some]
      rw [wrJ_n _ (by omega) (by decide)]
      simp only [Option.bind_some, nI_inc]
      exact ⟨8 - (j + 1), _, by omega, rfl, j + 1, by omega, rfl, rfl, u⟩
    · left
      have : j = 8 := by omega
      subst this
      rw [if_neg (by decide)]
      exact ⟨_, rfl, hg⟩) KF 8 ((0 : Int32), h0, n0) (KF_lt (by decide)) ⟨0, by omega, rfl, rfl, fun k hk => absurd hk (by omega)⟩
  obtain ⟨a, b⟩ := e
  exact ⟨a, b, h1, h2⟩
theorem CI_begin {Xr Mr : Nat → Int64} (hA : RA Xr Mr) (Xb : Int32) (Xc : Nat → Int64) (Xn : Nat → Int32) (st isB : Int32) (hand nb : Nat → Int64) (nn : Nat → Int32) : ∃ Xb' Xc' st' isB' hand' nb', fX3_begin Xb Xc Xr = some (Xb', Xc') ∧ fX9_beginWork st isB Mr hand nb = some (st', isB', hand', nb') ∧ CI 0 Xb' Xc' Xn st' isB' hand' nb' nn ∧ ∀ r, r < 8 → hand' r = Xr r := by
  obtain ⟨e, h1, h2⟩ := begin8_loop Xr Xc
  obtain ⟨a, b, h3, h4⟩ := begin9_loop Mr hand nb
  unfold fX3_begin fX9_beginWork
  rw [h1, h3]
  have hh : ∀ r, r < 8 → a r = Xr r := fun r hr => by rw [(h4 r hr).1, (hA r hr).1]
  refine ⟨1, e, 0, 0, a, b, rfl, rfl, ⟨by omega, rfl, rfl, rfl, fun k hk => ?_, fun k hk => absurd hk (by omega), fun i hi => absurd hi (by omega), fun r hr => ?_⟩, hh⟩
  · have hk8 : k < 8 := by omega
    rw [(h4 k hk8).2, (hA k hk8).1, h2 k hk8]
    exact ⟨rfl, (hA k hk8).2⟩
  · rw [hh r hr, Nat.mul_zero, Nat.zero_add, h2 r hr]
theorem end8_loop {j : Nat} (hj : j ≤ 48) (C g : Nat → Int64) : ∃ e, itr (fX7_end_L2 (nI (j + 1)) C) KF ((0 : Int32), g) = some e ∧ ∀ k, k < 8 → e k = C (8 * j + k) :=
  itr_ex (f := fX7_end_L2 (nI (j + 1)) C) (fun m s => ∃ q, q ≤ 8 ∧ m = 8 - q ∧ s.1 = nI q ∧ ∀ k, k < q → s.2 k = C (8 * j + k)) (fun e => ∀ k, k < 8 → e k = C (8 * j + k)) (fun m s hI => by
    obtain ⟨x, g⟩ := s
    obtain ⟨q, hq, rfl, hx, hg⟩ := hI
    dsimp only at hx hg
    subst hx
    show (∃ e, fX7_end_L2b (nI (j + 1)) C (nI q) g = some (.inr e) ∧ _) ∨ ∃ j' s', j' < 8 - q ∧ fX7_end_L2b (nI (j + 1)) C (nI q) g = some (.inl s') ∧ _
    unfold fX7_end_L2b fX7_latest
    rcases Nat.lt_or_ge q 8 with h | h
    · right
      have u : ∀ k, k < q + 1 → vp_updL g q (C (8 * j + q)) k = C (8 * j + k) := fun k hk => by
        by_cases e : k = q
        · subst e; rw [updL_at]
        · rw [updL_ne e]; exact hg k (by omega)
      rw [if_pos (lt8 h), steps_n (by omega)]
      simp only [Option.bind_some]
      rw [show j + 1 - 1 = j from rfl, cell_n (by omega)]
      simp only [Option.bind_some]
      rw [wrJ_n _ h (by decide)]
      simp only [Option.bind_some, nI_inc]
      exact ⟨8 - (q + 1), _, by omega, rfl, q + 1, by omega, rfl, rfl, u⟩
    · left
      have : q = 8 := by omega
      subst this
      rw [if_neg (by decide)]
      exact ⟨_, rfl, hg⟩) KF 8 ((0 : Int32), g) (KF_lt (by decide)) ⟨0, by omega, rfl, rfl, fun k hk => absurd hk (by omega)⟩
theorem end9_a {b : Nat} (hb : b ≤ 49) (f g : Nat → Int64) : ∃ e, itr (fX9_endWork_L22 (nI b) f) KF ((0 : Int32), g) = some e ∧ ∀ k, k < 8 * b → e k = f k :=
  itr_ex (f := fX9_endWork_L22 (nI b) f) (fun m s => ∃ q, q ≤ 8 * b ∧ m = 8 * b - q ∧ s.1 = nI q ∧ ∀ k, k < q → s.2 k = f k) (fun e => ∀ k, k < 8 * b → e k = f k) (fun m s hI => by
    obtain ⟨x, g⟩ := s
    obtain ⟨q, hq, rfl, hx, hg⟩ := hI
    dsimp only at hx hg
    subst hx
    show (∃ e, fX9_endWork_L22b (nI b) f (nI q) g = some (.inr e) ∧ _) ∨ ∃ j' s', j' < 8 * b - q ∧ fX9_endWork_L22b (nI b) f (nI q) g = some (.inl s') ∧ _
    unfold fX9_endWork_L22b
    rw [show (8 : Int32) * nI b = nI (8 * b) from nI_mul 8 b]
    rcases Nat.lt_or_ge q (8 * b) with h | h
    · right
      have u : ∀ k, k < q + 1 → vp_updL g q (f q) k = f k := fun k hk => by
        by_cases e : k = q
        · subst e; rw [updL_at]
        · rw [updL_ne e]; exact hg k (by omega)
      rw [if_pos (nI_lt h (by omega)), rdJ_n (by omega) (by decide)]
      simp only [Option.bind_some]
      rw [wrJ_n _ (by omega) (by decide)]
      simp only [Option.bind_some, nI_inc]
      exact ⟨8 * b - (q + 1), _, by omega, rfl, q + 1, by omega, rfl, rfl, u⟩
    · left
      have : q = 8 * b := by omega
      subst this
      rw [if_neg (nI_nlt (by omega) (by omega))]
      exact ⟨_, rfl, hg⟩) KF (8 * b) ((0 : Int32), g) (KF_lt (by omega)) ⟨0, by omega, rfl, rfl, fun k hk => absurd hk (by omega)⟩
theorem end9_b {b : Nat} (hb : b ≤ 48) (f g : Nat → Int32) : ∃ e, itr (fX9_endWork_L53 (nI b) f) KF ((0 : Int32), g) = some e ∧ ∀ k, k < 6 * b → e k = f k :=
  itr_ex (f := fX9_endWork_L53 (nI b) f) (fun m s => ∃ q, q ≤ 6 * b ∧ m = 6 * b - q ∧ s.1 = nI q ∧ ∀ k, k < q → s.2 k = f k) (fun e => ∀ k, k < 6 * b → e k = f k) (fun m s hI => by
    obtain ⟨x, g⟩ := s
    obtain ⟨q, hq, rfl, hx, hg⟩ := hI
    dsimp only at hx hg
    subst hx
    show (∃ e, fX9_endWork_L53b (nI b) f (nI q) g = some (.inr e) ∧ _) ∨ ∃ j' s', j' < 6 * b - q ∧ fX9_endWork_L53b (nI b) f (nI q) g = some (.inl s') ∧ _
    unfold fX9_endWork_L53b
    rw [show (6 : Int32) * nI b = nI (6 * b) from nI_mul 6 b]
    rcases Nat.lt_or_ge q (6 * b) with h | h
    · right
      have u : ∀ k, k < q + 1 → upd g q (f q) k = f k := fun k hk => by
        by_cases e : k = q
        · subst e; rw [upd_at]
        · rw [upd_ne e]; exact hg k (by omega)
      rw [if_pos (nI_lt h (by omega)), rdI_n (by omega) (by decide)]
      simp only [Option.bind_some]
      rw [wrI_n _ (by omega) (by decide)]
      simp only [Option.bind_some, nI_inc]
      exact ⟨6 * b - (q + 1), _, by omega, rfl, q + 1, by omega, rfl, rfl, u⟩
    · left
      have : q = 6 * b := by omega
      subst this
      rw [if_neg (nI_nlt (by omega) (by omega))]
      exact ⟨_, rfl, hg⟩) KF (6 * b) ((0 : Int32), g) (KF_lt (by omega)) ⟨0, by omega, rfl, rfl, fun k hk => absurd hk (by omega)⟩
theorem end9_c (f g : Nat → Int64) : ∃ e, itr (fX9_endWork_L84 f) KF ((0 : Int32), g) = some e ∧ ∀ k, k < 8 → e k = f k :=
  itr_ex (f := fX9_endWork_L84 f) (fun m s => ∃ q, q ≤ 8 ∧ m = 8 - q ∧ s.1 = nI q ∧ ∀ k, k < q → s.2 k = f k) (fun e => ∀ k, k < 8 → e k = f k) (fun m s hI => by
    obtain ⟨x, g⟩ := s
    obtain ⟨q, hq, rfl, hx, hg⟩ := hI
    dsimp only at hx hg
    subst hx
    show (∃ e, fX9_endWork_L84b f (nI q) g = some (.inr e) ∧ _) ∨ ∃ j' s', j' < 8 - q ∧ fX9_endWork_L84b f (nI q) g = some (.inl s') ∧ _
    unfold fX9_endWork_L84b
    rcases Nat.lt_or_ge q 8 with h | h
    · right
      have u : ∀ k, k < q + 1 → vp_updL g q (f q) k = f k := fun k hk => by
        by_cases e : k = q
        · subst e; rw [updL_at]
        · rw [updL_ne e]; exact hg k (by omega)
      rw [if_pos (lt8 h), rdJ_n h (by decide)]
      simp only [Option.bind_some]
      rw [wrJ_n _ h (by decide)]
      simp only [Option.bind_some, nI_inc]
      exact ⟨8 - (q + 1), _, by omega, rfl, q + 1, by omega, rfl, rfl, u⟩
    · left
      have : q = 8 := by omega
      subst this
      rw [if_neg (by decide)]
      exact ⟨_, rfl, hg⟩) KF 8 ((0 : Int32), g) (KF_lt (by decide)) ⟨0, by omega, rfl, rfl, fun k hk => absurd hk (by omega)⟩
theorem CI_end {j : Nat} {Xb Xc Xn st isB hand nb nn} (h : CI j Xb Xc Xn st isB hand nb nn) (Xr Mr : Nat → Int64) (Mb Mh : Int32) (Mc : Nat → Int64) (Mn : Nat → Int32) : ∃ r Xr' Mb' Mh' Mr' Mc' Mn', fX7_end Xr Xb Xc = some (r, Xr') ∧ fX9_endWork Mb Mh st isB Mr Mc Mn hand nb nn = some (r, Mb', Mh', Mr', Mc', Mn') ∧ RA Xr' Mr' ∧ Mh' = 0 ∧ RCw (j + 1) Xb Xc Xn Mb' Mc' Mn' := by
  obtain ⟨h48, rfl, rfl, rfl, hc, hn, hok, hh⟩ := h
  obtain ⟨e1, a1, a2⟩ := end8_loop h48 Xc Xr
  obtain ⟨e2, b1, b2⟩ := end9_a (b := j + 1) (by omega) nb Mc
  obtain ⟨e3, c1, c2⟩ := end9_b h48 nn Mn
  obtain ⟨e4, d1, d2⟩ := end9_c hand Mr
  unfold fX7_end fX9_endWork
  rw [a1, steps_n (by omega), if_pos rfl, nI_inc, b1, c1, d1]
  refine ⟨_, e1, _, 0, e4, e2, e3, rfl, rfl, fun r hr => ?_, rfl, by omega, rfl, rfl, fun k hk => ?_, fun k hk => ?_, fun i hi => hok i (by omega)⟩
  · rw [d2 r hr, a2 r hr, hh r hr]
    exact ⟨rfl, (hc _ (by omega)).2⟩
  · rw [b2 k hk]; exact hc k hk
  · rw [c2 k (by omega)]; exact hn k (by omega)
