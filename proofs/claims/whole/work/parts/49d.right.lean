/-! ===== right, dark: both alike ===== -/
def CP (b : Nat) (N : Nat → Int32) (Cc : Nat → Int64) (Cn : Nat → Int32) (My : Nat → Int64) (Mg Mn : Nat → Int32) : Prop := 1 ≤ b ∧ b ≤ 49 ∧ (∀ k, k + 6 < 6 * b → Cn k = N k ∧ Mn k = N k) ∧ (∀ i, i + 1 < b → NoteOk N i) ∧ ∀ k, k < 8 * b → Fit (My k) ∧ (Mg k = 0 ∧ Cc k = My k ∨ Mg k = 1 ∧ Cc k = LOSTv)
def cg (f : Nat → Int64) (i : Nat) : Nat → Nat
  | 0 => 0
  | n + 1 => cg f i n + (if f (8 * i + n) = LOSTv then 1 else 0)
theorem cg_le (f : Nat → Int64) (i n : Nat) : cg f i n ≤ n := by
  induction n with
  | zero => exact Nat.le_refl _
  | succ n ih => simp only [cg]; split <;> omega
theorem cg_pos (f : Nat → Int64) (i n : Nat) : 0 < cg f i n ↔ ∃ r, r < n ∧ f (8 * i + r) = LOSTv := by
  induction n with
  | zero => exact ⟨fun h => absurd h (Nat.lt_irrefl _), fun ⟨r, h, _⟩ => absurd h (Nat.not_lt_zero _)⟩
  | succ n ih =>
    simp only [cg]
    constructor
    · intro h
      by_cases c : f (8 * i + n) = LOSTv
      · exact ⟨n, by omega, c⟩
      · rw [if_neg c] at h
        obtain ⟨r, h1, h2⟩ := ih.mp (by omega)
        exact ⟨r, by omega, h2⟩
    · rintro ⟨r, h1, h2⟩
      by_cases c : r = n
      · subst c; rw [if_pos h2]; omega
      · have := ih.mpr ⟨r, by omega, h2⟩
        omega
theorem gapsIn_n {f : Nat → Int64} {i : Nat} (hi : i < 49) : fX1_gapsIn (nI i) f = some (nI (cg f i 8)) := by
  unfold fX1_gapsIn
  rw [show itr (fX1_gapsIn_L4 (nI i) f) KF ((0 : Int32), (0 : Int32)) = some (nI (cg f i 8)) from
    itr_to (fun j => (nI (cg f i j), nI j)) 8 _ (fun j hj => by
      show fX1_gapsIn_L4b (nI i) f (nI (cg f i j)) (nI j) = _
      unfold fX1_gapsIn_L4b
      rw [if_pos (lt8 hj), cell_n (by omega)]
      simp only [Option.bind_some, nI_inc, cg]
      by_cases c : f (8 * i + j) = LOSTv
      · rw [if_pos c, if_pos c]
      · rw [if_neg c, if_neg c]; rfl) (by
      show fX1_gapsIn_L4b (nI i) f (nI (cg f i 8)) (nI 8) = _
      unfold fX1_gapsIn_L4b
      rw [if_neg (by decide)]) (KF_lt (by decide))]
  rfl
def Dk (f : Nat → Int64) (i : Nat) : Prop := (∃ r, r < 8 ∧ f (8 * i + r) = LOSTv) ∨ (∃ r, r < 8 ∧ f (8 * (i + 1) + r) = LOSTv)
theorem isDark_n {f : Nat → Int64} {i : Nat} (hi : i < 48) : (Dk f i → fX1_isDark (nI i) f = some 1) ∧ (¬ Dk f i → fX1_isDark (nI i) f = some 0) := by
  unfold fX1_isDark
  rw [gapsIn_n (by omega), nI_inc, gapsIn_n (by omega)]
  simp only [Option.bind_some]
  have l1 := cg_le f i 8
  have l2 := cg_le f (i + 1) 8
  constructor
  · intro h
    by_cases c : 0 < cg f i 8
    · rw [if_pos ((nI_p (by omega)).mpr c)]
    · rw [if_neg (fun q => c ((nI_p (by omega)).mp q)), if_pos ((nI_p (by omega)).mpr _)]
      rcases h with h | h
      · exact absurd ((cg_pos f i 8).mpr h) c
      · exact (cg_pos f (i + 1) 8).mpr h
  · intro h
    rw [if_neg (fun q => h (Or.inl ((cg_pos f i 8).mp ((nI_p (by omega)).mp q)))), if_neg (fun q => h (Or.inr ((cg_pos f (i + 1) 8).mp ((nI_p (by omega)).mp q))))]
theorem hasGap_n {g : Nat → Int32} {i : Nat} (hi : i < 149) : ∃ v, fX9_hasGap (nI i) g = some v ∧ ((v = 1 ∧ ∃ r, r < 8 ∧ ¬ g (8 * i + r) = 0) ∨ (v = 0 ∧ ∀ r, r < 8 → g (8 * i + r) = 0)) := by
  obtain ⟨e, h1, h2⟩ := itr_ex (f := fX9_hasGap_L4 (nI i) g) (fun m s => ∃ j, j ≤ 8 ∧ m = 8 - j ∧ s.2 = nI j ∧ ((s.1 = 1 ∧ ∃ r, r < 8 ∧ ¬ g (8 * i + r) = 0) ∨ (s.1 = 0 ∧ ∀ r, r < j → g (8 * i + r) = 0))) (fun e => (e = 1 ∧ ∃ r, r < 8 ∧ ¬ g (8 * i + r) = 0) ∨ (e = 0 ∧ ∀ r, r < 8 → g (8 * i + r) = 0)) (fun m s hI => by
    obtain ⟨t, x⟩ := s
    obtain ⟨j, hj, rfl, hx, ht⟩ := hI
    dsimp only at hx ht
    subst hx
    show (∃ e, fX9_hasGap_L4b (nI i) g t (nI j) = some (.inr e) ∧ _) ∨ ∃ j' s', j' < 8 - j ∧ fX9_hasGap_L4b (nI i) g t (nI j) = some (.inl s') ∧ _
    unfold fX9_hasGap_L4b
    rcases Nat.lt_or_ge j 8 with h | h
    · right
      rw [if_pos (lt8 h)]
      rcases ht with ⟨rfl, ht⟩ | ⟨rfl, ht⟩
      · rw [i10, nI_inc]
        exact ⟨8 - (j + 1), _, by omega, rfl, j + 1, by omega, rfl, rfl, Or.inl ⟨rfl, ht⟩⟩
      · rw [i00, ix8', rdI_n (by omega) (by decide)]
        simp only [Option.bind_some, nI_inc]
        by_cases c : g (8 * i + j) = 0
        · rw [if_pos c]
          refine ⟨8 - (j + 1), _, by omega, rfl, j + 1, by omega, rfl, rfl, Or.inr ⟨rfl, fun r hr => ?_⟩⟩
          rcases Nat.lt_or_ge r j with z | z
          · exact ht r z
          · have : r = j := by omega
            subst this
            exact c
        · rw [if_neg c]
          exact ⟨8 - (j + 1), _, by omega, rfl, j + 1, by omega, rfl, rfl, Or.inl ⟨rfl, j, h, c⟩⟩
    · left
      have : j = 8 := by omega
      subst this
      rw [if_neg (by decide)]
      exact ⟨_, rfl, ht⟩) KF 8 ((0 : Int32), (0 : Int32)) (KF_lt (by decide)) ⟨0, by omega, rfl, rfl, Or.inr ⟨rfl, fun k hk => absurd hk (by omega)⟩⟩
  unfold fX9_hasGap
  rw [h1]
  rcases h2 with ⟨rfl, h2⟩ | ⟨rfl, h2⟩
  · exact ⟨1, rfl, Or.inl ⟨rfl, h2⟩⟩
  · exact ⟨0, rfl, Or.inr ⟨rfl, h2⟩⟩
theorem NoteV_congr {N N' : Nat → Int32} {i k a p : Nat} {d : Int} {b c : Nat} (h : ∀ j, j < 6 → N' (6 * i + j) = N (6 * i + j)) (hN : NoteV N i k a p d b c) : NoteV N' i k a p d b c := by
  unfold NoteV at hN ⊢
  have h0 := h 0 (by omega)
  have h1 := h 1 (by omega)
  have h2 := h 2 (by omega)
  have h3 := h 3 (by omega)
  have h4 := h 4 (by omega)
  have h5 := h 5 (by omega)
  rw [Nat.add_zero] at h0
  rw [h0, h1, h2, h3, h4, h5]
  exact hN
theorem NoteOk_V8 {N : Nat → Int32} {i : Nat} (h : NoteOk N i) : ∃ k a p d b c, NoteV N i k a p d b c ∧ b < 8 := by
  obtain ⟨k, a, p, d, b, c, hV⟩ := NoteOk_V h
  obtain ⟨h0, h1, h2, h3, ha, hp, hd, hk⟩ := id hV
  rcases hk with hk | hk | hk | hk
  · exact ⟨k, a, p, d, 0, c, ⟨h0, h1, h2, h3, ha, hp, hd, Or.inl hk⟩, by decide⟩
  · exact ⟨k, a, p, d, 0, c, ⟨h0, h1, h2, h3, ha, hp, hd, Or.inr (Or.inl hk)⟩, by decide⟩
  · exact ⟨k, a, p, d, 0, c, ⟨h0, h1, h2, h3, ha, hp, hd, Or.inr (Or.inr (Or.inl hk))⟩, by decide⟩
  · exact ⟨k, a, p, d, b, c, hV, hk.2.2.1⟩
theorem wval_congr {k a : Nat} {m : Int} {b c : Nat} {f g : Nat → Int} (h : ∀ r, r < 8 → f r = g r) (hb : b < 8) {r : Nat} (hr : r < 8) : wval k a m b c f r = wval k a m b c g r := by
  unfold wval
  rw [h r hr, h b hb]
theorem wok_congr {k a : Nat} {m : Int} {b : Nat} {f g : Nat → Int} (h : ∀ r, r < 8 → f r = g r) (hb : b < 8) {r : Nat} (hw : wok k a m b f r) : wok k a m b g r := by
  unfold wok at hw ⊢
  rw [← h b hb]
  exact hw
theorem fits_n {C : Nat → Int64} {N : Nat → Int32} {i r : Nat} {z : Int64} (hi : i < 48) (hr : r < 8) (hz : fX3_walked (nI i) (nI r) C N = some z) : (z = C (8 * (i + 1) + r) → fX1_fits (nI i) (nI r) C N = some 1) ∧ (¬ z = C (8 * (i + 1) + r) → fX1_fits (nI i) (nI r) C N = some 0) := by
  unfold fX1_fits
  rw [hz, nI_inc]
  simp only [Option.bind_some]
  rw [cell_n (by omega)]
  simp only [Option.bind_some]
  exact ⟨fun h => by rw [if_pos h], fun h => by rw [if_neg h]⟩
theorem right8_loop {C : Nat → Int64} {N : Nat → Int32} {i : Nat} (z : Nat → Int64) (hi : i < 48) (hz : ∀ r, r < 8 → fX3_walked (nI i) (nI r) C N = some (z r)) : ((∀ r, r < 8 → z r = C (8 * (i + 1) + r)) → itr (fX1_isRight_L27 (nI i) C N) KF (0 : Int32) = some (.inl ())) ∧ (¬ (∀ r, r < 8 → z r = C (8 * (i + 1) + r)) → itr (fX1_isRight_L27 (nI i) C N) KF (0 : Int32) = some (.inr 0)) := by
  obtain ⟨e, h1, h2⟩ := itr_ex (f := fX1_isRight_L27 (nI i) C N) (fun m s => ∃ j, j ≤ 8 ∧ m = 8 - j ∧ s = nI j ∧ ∀ r, r < j → z r = C (8 * (i + 1) + r)) (fun e => (e = .inl () ∧ ∀ r, r < 8 → z r = C (8 * (i + 1) + r)) ∨ (e = .inr 0 ∧ ¬ ∀ r, r < 8 → z r = C (8 * (i + 1) + r))) (fun m s hI => by
    obtain ⟨j, hj, rfl, rfl, ht⟩ := hI
    show (∃ e, fX1_isRight_L27b (nI i) C N (nI j) = some (.inr e) ∧ _) ∨ ∃ j' s', j' < 8 - j ∧ fX1_isRight_L27b (nI i) C N (nI j) = some (.inl s') ∧ _
    unfold fX1_isRight_L27b
    rcases Nat.lt_or_ge j 8 with h | h
    · rw [if_pos (lt8 h)]
      have hf := fits_n hi h (hz j h)
      by_cases c : z j = C (8 * (i + 1) + j)
      · right
        rw [hf.1 c]
        simp only [Option.bind_some, i10, nI_inc]
        refine ⟨8 - (j + 1), _, by omega, rfl, j + 1, by omega, rfl, rfl, fun r hr => ?_⟩
        rcases Nat.lt_or_ge r j with q | q
        · exact ht r q
        · have : r = j := by omega
          subst this
          exact c
      · left
        rw [hf.2 c]
        exact ⟨_, rfl, Or.inr ⟨rfl, fun q => c (q j h)⟩⟩
    · left
      have : j = 8 := by omega
      subst this
      rw [if_neg (by decide)]
      exact ⟨_, rfl, Or.inl ⟨rfl, ht⟩⟩) KF 8 (0 : Int32) (KF_lt (by decide)) ⟨0, by omega, rfl, rfl, fun k hk => absurd hk (by omega)⟩
  rcases h2 with ⟨rfl, h2⟩ | ⟨rfl, h2⟩
  · exact ⟨fun _ => h1, fun q => absurd h2 q⟩
  · exact ⟨fun q => absurd q h2, fun _ => h1⟩
theorem ix8p (i r : Nat) : (8 : Int32) * nI i + (8 : Int32) + nI r = nI (8 * (i + 1) + r) := by
  rw [show (8 : Int32) * nI i + (8 : Int32) = nI (8 * i + 8) from by rw [show (8 : Int32) * nI i = nI (8 * i) from nI_mul 8 i]; exact nI_add (8 * i) 8, nI_add]
  rfl
theorem right9_loop {C hand : Nat → Int64} {i : Nat} (hi : i < 149) {t : Int32} (ht : t = 0 ∨ t = 1) : ∃ x, itr (fX9_rightOf_L28 (nI i) C hand) KF (t, (0 : Int32)) = some x ∧ ((x = 1 ∧ t = 1 ∧ ∀ r, r < 8 → hand r = C (8 * (i + 1) + r)) ∨ (x = 0 ∧ ¬ (t = 1 ∧ ∀ r, r < 8 → hand r = C (8 * (i + 1) + r)))) := by
  obtain ⟨e, h1, h2⟩ := itr_ex (f := fX9_rightOf_L28 (nI i) C hand) (fun m s => ∃ j, j ≤ 8 ∧ m = 8 - j ∧ s.2 = nI j ∧ ((s.1 = 1 ∧ t = 1 ∧ ∀ r, r < j → hand r = C (8 * (i + 1) + r)) ∨ (s.1 = 0 ∧ ¬ (t = 1 ∧ ∀ r, r < 8 → hand r = C (8 * (i + 1) + r))))) (fun x => ((x = 1 ∧ t = 1 ∧ ∀ r, r < 8 → hand r = C (8 * (i + 1) + r)) ∨ (x = 0 ∧ ¬ (t = 1 ∧ ∀ r, r < 8 → hand r = C (8 * (i + 1) + r))))) (fun m s hI => by
    obtain ⟨y, x⟩ := s
    obtain ⟨j, hj, rfl, hx, hy⟩ := hI
    dsimp only at hx hy
    subst hx
    show (∃ e, fX9_rightOf_L28b (nI i) C hand y (nI j) = some (.inr e) ∧ _) ∨ ∃ j' s', j' < 8 - j ∧ fX9_rightOf_L28b (nI i) C hand y (nI j) = some (.inl s') ∧ _
    unfold fX9_rightOf_L28b
    rcases Nat.lt_or_ge j 8 with h | h
    · right
      rw [if_pos (lt8 h)]
      rcases hy with ⟨rfl, h1, hy⟩ | ⟨rfl, hy⟩
      · rw [i10, rdJ_n h (by decide), ix8p, rdJ_n (by omega) (by decide)]
        simp only [Option.bind_some, nI_inc]
        by_cases c : hand j = C (8 * (i + 1) + j)
        · rw [if_pos c]
          refine ⟨8 - (j + 1), _, by omega, rfl, j + 1, by omega, rfl, rfl, Or.inl ⟨rfl, h1, fun r hr => ?_⟩⟩
          rcases Nat.lt_or_ge r j with q | q
          · exact hy r q
          · have : r = j := by omega
            subst this
            exact c
        · rw [if_neg c]
          exact ⟨8 - (j + 1), _, by omega, rfl, j + 1, by omega, rfl, rfl, Or.inr ⟨rfl, fun q => c (q.2 j h)⟩⟩
      · rw [i00, nI_inc]
        exact ⟨8 - (j + 1), _, by omega, rfl, j + 1, by omega, rfl, rfl, Or.inr ⟨rfl, hy⟩⟩
    · left
      have : j = 8 := by omega
      subst this
      rw [if_neg (by decide)]
      exact ⟨_, rfl, hy⟩) KF 8 (t, (0 : Int32)) (KF_lt (by decide)) ⟨0, by omega, rfl, rfl, by
      rcases ht with rfl | rfl
      · exact Or.inr ⟨rfl, fun q => absurd q.1 (by decide)⟩
      · exact Or.inl ⟨rfl, rfl, fun k hk => absurd hk (by omega)⟩⟩
  exact ⟨e, h1, h2⟩
/-- where a step leads, both ways, when there is no gap ahead of it -/
theorem walk_both {b : Nat} {N : Nat → Int32} {Cc : Nat → Int64} {Cn : Nat → Int32} {My : Nat → Int64} {Mg Mn : Nat → Int32} (h : CP b N Cc Cn My Mg Mn) {i : Nat} (hi : i + 1 < b) (hng : ∀ r, r < 8 → ¬ Cc (8 * i + r) = LOSTv) (hand : Nat → Int64) : ∃ (z : Nat → Int64) (t : Int32) (hand' : Nat → Int64), (∀ r, r < 8 → fX3_walked (nI i) (nI r) Cc Cn = some (z r)) ∧ fX9_walks (nI i) Mn My hand = some (t, hand') ∧ ((t = 1 ∧ ∀ r, r < 8 → hand' r = z r ∧ Fit (z r)) ∨ (t = 0 ∧ ∃ r, r < 8 ∧ z r = LOSTv)) := by
  obtain ⟨b1, b49, hn, hok, hcell⟩ := h
  obtain ⟨k, a, p, d, b', c, hV, hb'⟩ := NoteOk_V8 (hok i hi)
  have hVc : NoteV Cn i k a p d b' c := NoteV_congr (fun j hj => (hn _ (by omega)).1) hV
  have hVm : NoteV Mn i k a p d b' c := NoteV_congr (fun j hj => (hn _ (by omega)).2) hV
  have hcm : ∀ r, r < 8 → Fit (My (8 * i + r)) ∧ Cc (8 * i + r) = My (8 * i + r) := by
    intro r hr
    obtain ⟨g1, g2⟩ := hcell (8 * i + r) (by omega)
    rcases g2 with ⟨-, g2⟩ | ⟨-, g2⟩
    · exact ⟨g1, g2⟩
    · exact absurd g2 (hng r hr)
  have hfc : ∀ r, r < 8 → Fit (Cc (8 * i + r)) := fun r hr => by rw [(hcm r hr).2]; exact (hcm r hr).1
  have hz : ∀ r, ∃ z, r < 8 → fX3_walked (nI i) (nI r) Cc Cn = some z ∧ Res z (wval k a (mI d p) b' c (fun r => (Cc (8 * i + r)).toInt) r) (wok k a (mI d p) b' (fun r => (Cc (8 * i + r)).toInt) r) := by
    intro r
    by_cases hr : r < 8
    · obtain ⟨z, h1, h2⟩ := walked_n (by omega) hVc hfc hr
      exact ⟨z, fun _ => ⟨h1, h2⟩⟩
    · exact ⟨0, fun q => absurd q hr⟩
  obtain ⟨t, hand', h1, h2⟩ := walks9_n hand (by omega) hVm (fun r hr => (hcm r hr).1)
  have hfg : ∀ r, r < 8 → (fun r => (Cc (8 * i + r)).toInt) r = (fun r => (My (8 * i + r)).toInt) r := fun r hr => by show (Cc (8 * i + r)).toInt = (My (8 * i + r)).toInt; rw [(hcm r hr).2]
  refine ⟨fun r => (hz r).choose, t, hand', fun r hr => ((hz r).choose_spec hr).1, h1, ?_⟩
  rcases h2 with ⟨rfl, h2⟩ | ⟨rfl, r, hr, h2⟩
  · refine Or.inl ⟨rfl, fun r hr => ?_⟩
    obtain ⟨g1, g2, g3⟩ := h2 r hr
    have hR := ((hz r).choose_spec hr).2
    rcases Res_fit hR with ⟨e1, e2, e3⟩ | ⟨e1, e2⟩
    · refine ⟨?_, e1⟩
      apply Int64.toInt_inj.mp
      rw [g2, e2]
      exact (wval_congr hfg hb' hr).symm
    · exfalso
      apply e2
      refine ⟨wok_congr (fun r hr => (hfg r hr).symm) hb' g1, ?_⟩
      rw [wval_congr hfg hb' hr, ← g2]
      exact fit_abs.mp g3
  · refine Or.inr ⟨rfl, r, hr, ?_⟩
    have hR := ((hz r).choose_spec hr).2
    rcases Res_fit hR with ⟨e1, e2, e3⟩ | ⟨e1, e2⟩
    · exfalso
      apply h2
      refine ⟨wok_congr hfg hb' e3, ?_⟩
      rw [← wval_congr hfg hb' hr, ← e2]
      exact fit_abs.mp e1
    · exact e1
theorem rightOf_both {b : Nat} {N : Nat → Int32} {Cc : Nat → Int64} {Cn : Nat → Int32} {My : Nat → Int64} {Mg Mn : Nat → Int32} (h : CP b N Cc Cn My Mg Mn) {i : Nat} (hi : i + 1 < b) (hand : Nat → Int64) : ∃ (w : Int32) (hand' : Nat → Int64), fX9_rightOf (nI i) Mn My Mg hand = some (w, hand') ∧ ((w = 2 ∧ Dk Cc i ∧ fX1_isRight (nI i) (nI b) Cc Cn = some 0) ∨ (w = 1 ∧ ¬ Dk Cc i ∧ fX1_isRight (nI i) (nI b) Cc Cn = some 1) ∨ (w = 0 ∧ ¬ Dk Cc i ∧ fX1_isRight (nI i) (nI b) Cc Cn = some 0)) := by
  obtain ⟨b1, b49, hn, hok, hcell⟩ := id h
  have hgap : ∀ k, k < 8 * b → (Cc k = LOSTv ↔ ¬ Mg k = 0) := by
    intro k hk
    obtain ⟨g1, g2⟩ := hcell k hk
    rcases g2 with ⟨g2, g3⟩ | ⟨g2, g3⟩
    · rw [g3, g2]; exact ⟨fun q => absurd q (lost_not_fit g1), fun q => absurd rfl q⟩
    · rw [g3, g2]; exact ⟨fun _ => by decide, fun _ => rfl⟩
  have hd := isDark_n (f := Cc) (i := i) (by omega)
  obtain ⟨v1, g1, g2⟩ := hasGap_n (g := Mg) (i := i) (by omega)
  obtain ⟨v2, g3, g4⟩ := hasGap_n (g := Mg) (i := i + 1) (by omega)
  unfold fX9_rightOf fX1_isRight
  rw [if_neg (nI_not_neg (by omega)), steps_n (by omega)]
  simp only [Option.bind_some]
  rw [if_pos (nI_lt (show i < b - 1 by omega) (by omega)), g1, nI_inc, g3]
  simp only [Option.bind_some]
  rcases g2 with ⟨rfl, r, hr, g2⟩ | ⟨rfl, g2⟩
  · have hk : Dk Cc i := Or.inl ⟨r, hr, (hgap _ (by omega)).mpr g2⟩
    rw [hd.1 hk, i10]
    exact ⟨2, hand, rfl, Or.inl ⟨rfl, hk, rfl⟩⟩
  · rcases g4 with ⟨rfl, r, hr, g4⟩ | ⟨rfl, g4⟩
    · have hk : Dk Cc i := Or.inr ⟨r, hr, (hgap _ (by omega)).mpr g4⟩
      rw [hd.1 hk, i00, i10]
      exact ⟨2, hand, rfl, Or.inl ⟨rfl, hk, rfl⟩⟩
    · have hk1 : ∀ r, r < 8 → ¬ Cc (8 * i + r) = LOSTv := fun r hr q => (hgap _ (by omega)).mp q (g2 r hr)
      have hk2 : ∀ r, r < 8 → ¬ Cc (8 * (i + 1) + r) = LOSTv := fun r hr q => (hgap _ (by omega)).mp q (g4 r hr)
      have hk : ¬ Dk Cc i := fun q => by
        rcases q with ⟨r, hr, q⟩ | ⟨r, hr, q⟩
        · exact hk1 r hr q
        · exact hk2 r hr q
      have hc2 : ∀ r, r < 8 → Cc (8 * (i + 1) + r) = My (8 * (i + 1) + r) := by
        intro r hr
        rcases (hcell (8 * (i + 1) + r) (by omega)).2 with ⟨-, q⟩ | ⟨-, q⟩
        · exact q
        · exact absurd q (hk2 r hr)
      rw [hd.2 hk, i00, i00]
      obtain ⟨z, t, hand', w1, w2, w3⟩ := walk_both h hi hk1 hand
      have hl := right8_loop (C := Cc) (N := Cn) z (by omega) w1
      have ht : t = 0 ∨ t = 1 := by
        rcases w3 with ⟨q, -⟩ | ⟨q, -⟩
        · exact Or.inr q
        · exact Or.inl q
      obtain ⟨x, x1, x2⟩ := right9_loop (C := My) (hand := hand') (i := i) (by omega) ht
      rw [w2]
      simp only [bn2, Option.bind_some]
      rw [x1]
      simp only [Option.bind_some, if_true]
      by_cases hall : ∀ r, r < 8 → z r = Cc (8 * (i + 1) + r)
      · rw [hl.1 hall]
        have h11 : x = 1 := by
          rcases x2 with ⟨q, -⟩ | ⟨-, q⟩
          · exact q
          · exfalso
            apply q
            rcases w3 with ⟨rfl, w3⟩ | ⟨rfl, r, hr, w3⟩
            · exact ⟨rfl, fun r hr => by rw [(w3 r hr).1, hall r hr, hc2 r hr]⟩
            · exact absurd ((hall r hr).symm.trans w3) (hk2 r hr)
        subst h11
        exact ⟨1, hand', by rw [i10], Or.inr (Or.inl ⟨rfl, hk, rfl⟩)⟩
      · rw [hl.2 hall]
        have h11 : x = 0 := by
          rcases x2 with ⟨-, q1, q2⟩ | ⟨q, -⟩
          · exfalso
            apply hall
            intro r hr
            rcases w3 with ⟨rfl, w3⟩ | ⟨rfl, w3⟩
            · rw [← (w3 r hr).1, q2 r hr, hc2 r hr]
            · exact absurd q1 (by decide)
          · exact q
        subst h11
        exact ⟨0, hand', by rw [i00], Or.inr (Or.inr ⟨rfl, hk, rfl⟩)⟩
