/-! ===== where a step leads: the reference ===== -/
theorem fits9 {v : Int64} (hv : -9223372036854775808 < v.toInt) : (Fit v → fX9_fits v = some 1) ∧ (¬ Fit v → fX9_fits v = some 0) := by
  obtain ⟨s, h1, h2⟩ := size9_toInt' hv
  have e : (1000000000000 : Int64).toInt = 1000000000000 := by decide +kernel
  unfold fX9_fits
  rw [h1]
  simp only [Option.bind_some]
  constructor
  · intro h
    have := fit_abs.mp h
    rw [if_pos (by rw [Int64.lt_iff_toInt_lt, e, h2]; omega)]
  · intro h
    have : ¬ v.toInt.natAbs < 1000000000000 := fun q => h (fit_abs.mpr q)
    rw [if_neg (by rw [Int64.lt_iff_toInt_lt, e, h2]; omega)]
theorem hand9_loop {i : Nat} (hi : i < 149) (C g0 : Nat → Int64) : ∃ u, itr (fX9_walks_L2 (nI i) C) KF ((0 : Int32), g0) = some u ∧ ∀ r, r < 8 → u r = C (8 * i + r) :=
  itr_ex (f := fX9_walks_L2 (nI i) C) (fun m s => ∃ j, j ≤ 8 ∧ m = 8 - j ∧ s.1 = nI j ∧ ∀ k, k < j → s.2 k = C (8 * i + k)) (fun e => ∀ k, k < 8 → e k = C (8 * i + k)) (fun m s hI => by
    obtain ⟨x, g⟩ := s
    obtain ⟨j, hj, rfl, hx, hg⟩ := hI
    dsimp only at hx hg
    subst hx
    show (∃ e, fX9_walks_L2b (nI i) C (nI j) g = some (.inr e) ∧ _) ∨ ∃ j' s', j' < 8 - j ∧ fX9_walks_L2b (nI i) C (nI j) g = some (.inl s') ∧ _
    unfold fX9_walks_L2b
    rcases Nat.lt_or_ge j 8 with h | h
    · right
      rw [if_pos (lt8 h), ix8', rdJ_n (by omega) (by decide)]
      simp only [Option.bind_some]
      rw [wrJ_n _ h (by decide)]
      simp only [Option.bind_some, nI_inc]
      refine ⟨8 - (j + 1), _, by omega, rfl, j + 1, by omega, rfl, rfl, fun k hk => ?_⟩
      by_cases e : k = j
      · subst e; exact updL_at _ _ _
      · show vp_updL g j _ k = _
        rw [updL_ne e]; exact hg k (by omega)
    · left
      have : j = 8 := by omega
      subst this
      rw [if_neg (by decide)]
      exact ⟨_, rfl, hg⟩) KF 8 ((0 : Int32), g0) (KF_lt (by decide)) ⟨0, by omega, rfl, rfl, fun k hk => absurd hk (by omega)⟩
theorem B281_n (g : Nat → Int64) (hg : ∀ r, r < 8 → -9223372036854775808 < (g r).toInt) : ∃ t, fX9_walks_B281 g = some (t, g) ∧ ((t = 1 ∧ ∀ r, r < 8 → Fit (g r)) ∨ (t = 0 ∧ ∃ r, r < 8 ∧ ¬ Fit (g r))) := by
  obtain ⟨e, h1, h2⟩ := itr_ex (f := fX9_walks_L287 g) (fun m s => ∃ j, j ≤ 8 ∧ m = 8 - j ∧ s.2 = nI j ∧ ((s.1 = 1 ∧ ∀ r, r < j → Fit (g r)) ∨ (s.1 = 0 ∧ ∃ r, r < 8 ∧ ¬ Fit (g r)))) (fun e => (e = 1 ∧ ∀ r, r < 8 → Fit (g r)) ∨ (e = 0 ∧ ∃ r, r < 8 ∧ ¬ Fit (g r))) (fun m s hI => by
    obtain ⟨t, x⟩ := s
    obtain ⟨j, hj, rfl, hx, ht⟩ := hI
    dsimp only at hx ht
    subst hx
    show (∃ e, fX9_walks_L287b g t (nI j) = some (.inr e) ∧ _) ∨ ∃ j' s', j' < 8 - j ∧ fX9_walks_L287b g t (nI j) = some (.inl s') ∧ _
    unfold fX9_walks_L287b
    rcases Nat.lt_or_ge j 8 with h | h
    · right
      rw [if_pos (lt8 h)]
      rcases ht with ⟨rfl, ht⟩ | ⟨rfl, ht⟩
      · rw [i10, rdJ_n h (by decide)]
        simp only [Option.bind_some]
        by_cases hf : Fit (g j)
        · rw [(fits9 (hg j h)).1 hf]
          simp only [Option.bind_some, i10, nI_inc]
          refine ⟨8 - (j + 1), _, by omega, rfl, j + 1, by omega, rfl, rfl, Or.inl ⟨rfl, fun r hr => ?_⟩⟩
          rcases Nat.lt_or_ge r j with z | z
          · exact ht r z
          · have : r = j := by omega
            subst this
            exact hf
        · rw [(fits9 (hg j h)).2 hf]
          simp only [Option.bind_some, i00, nI_inc]
          exact ⟨8 - (j + 1), _, by omega, rfl, j + 1, by omega, rfl, rfl, Or.inr ⟨rfl, j, h, hf⟩⟩
      · rw [i00, nI_inc]
        exact ⟨8 - (j + 1), _, by omega, rfl, j + 1, by omega, rfl, rfl, Or.inr ⟨rfl, ht⟩⟩
    · left
      have : j = 8 := by omega
      subst this
      rw [if_neg (by decide)]
      exact ⟨_, rfl, ht⟩) KF 8 ((1 : Int32), (0 : Int32)) (KF_lt (by decide)) ⟨0, by omega, rfl, rfl, Or.inl ⟨rfl, fun k hk => absurd hk (by omega)⟩⟩
  unfold fX9_walks_B281
  rw [h1]
  rcases h2 with ⟨rfl, h2⟩ | ⟨rfl, h2⟩
  · exact ⟨1, rfl, Or.inl ⟨rfl, h2⟩⟩
  · exact ⟨0, rfl, Or.inr ⟨rfl, h2⟩⟩
/-- the reference's end: all rows as told -/
theorem walks_end {k a : Nat} {m : Int} {b c : Nat} {f : Nat → Int} {g : Nat → Int64} (hg : ∀ r, r < 8 → (g r).toInt = wval k a m b c f r ∧ wok k a m b f r) (hb : ∀ r, r < 8 → (g r).toInt.natAbs < 9000000000000000000) : ∃ t, fX9_walks_B281 g = some (t, g) ∧ ((t = 1 ∧ ∀ r, r < 8 → wok k a m b f r ∧ (g r).toInt = wval k a m b c f r ∧ Fit (g r)) ∨ (t = 0 ∧ ∃ r, r < 8 ∧ ¬ (wok k a m b f r ∧ (wval k a m b c f r).natAbs < 1000000000000))) := by
  obtain ⟨t, h1, h2⟩ := B281_n g (fun r hr => by have := hb r hr; omega)
  refine ⟨t, h1, ?_⟩
  rcases h2 with ⟨rfl, h2⟩ | ⟨rfl, r, hr, h2⟩
  · exact Or.inl ⟨rfl, fun r hr => ⟨(hg r hr).2, (hg r hr).1, h2 r hr⟩⟩
  · exact Or.inr ⟨rfl, r, hr, fun q => h2 (fit_abs.mpr (by rw [(hg r hr).1]; exact q.2))⟩
theorem walks9_n {N : Nat → Int32} {C : Nat → Int64} (hand : Nat → Int64) {i k a p : Nat} {d : Int} {b c : Nat} (hi : i < 48) (hN : NoteV N i k a p d b c) (hC : ∀ r, r < 8 → Fit (C (8 * i + r))) : ∃ t hand', fX9_walks (nI i) N C hand = some (t, hand') ∧ ((t = 1 ∧ ∀ r, r < 8 → wok k a (mI d p) b (fun r => (C (8 * i + r)).toInt) r ∧ (hand' r).toInt = wval k a (mI d p) b c (fun r => (C (8 * i + r)).toInt) r ∧ Fit (hand' r)) ∨ (t = 0 ∧ ∃ r, r < 8 ∧ ¬ (wok k a (mI d p) b (fun r => (C (8 * i + r)).toInt) r ∧ (wval k a (mI d p) b c (fun r => (C (8 * i + r)).toInt) r).natAbs < 1000000000000))) := by
  obtain ⟨h0, h1, h2, h3, ha, hp, hd, hk⟩ := hN
  obtain ⟨m1, m2⟩ := more_ok h3 hd hp
  have hmm : ((N (6 * i + 3)).toInt64 * tensF p).toInt = mI d p := m1
  have hma : (mI d p).natAbs ≤ 8100000000000 := m2
  obtain ⟨u, hu1, hu⟩ := hand9_loop (i := i) (by omega) C hand
  have e0 : (6 : Int32) * nI i = nI (6 * i) := nI_mul 6 i
  have e1 : (6 : Int32) * nI i + (1 : Int32) = nI (6 * i + 1) := ix6' i 1
  have e2 : (6 : Int32) * nI i + (2 : Int32) = nI (6 * i + 2) := ix6' i 2
  have e3 : (6 : Int32) * nI i + (3 : Int32) = nI (6 * i + 3) := ix6' i 3
  have e4 : (6 : Int32) * nI i + (4 : Int32) = nI (6 * i + 4) := ix6' i 4
  have e5 : (6 : Int32) * nI i + (5 : Int32) = nI (6 * i + 5) := ix6' i 5
  have hua : u a = C (8 * i + a) := hu a ha
  have hfa := fit_abs.mp (hC a ha)
  have ubound : ∀ r, r < 8 → (u r).toInt.natAbs < 1000000000000 := fun r hr => by rw [hu r hr]; exact fit_abs.mp (hC r hr)
  unfold fX9_walks
  rw [hu1]
  simp only [Option.bind_some]
  rw [e1, e2, e3, e4, e5, e0, rdI_n (by omega) (by decide), rdI_n (by omega) (by decide), rdI_n (by omega) (by decide), rdI_n (by omega) (by decide), rdI_n (by omega) (by decide), rdI_n (by omega) (by decide), h0, h1, h2]
  simp only [Option.bind_some]
  rw [ten9 p hp]
  simp only [Option.bind_some]
  have hsum : ∀ x : Nat, x < 8 → (u x + (N (6 * i + 3)).toInt64 * tensF p).toInt = (C (8 * i + x)).toInt + mI d p := by
    intro x hx
    have := fit_abs.mp (hC x hx)
    rw [hu x hx]
    rw [t64_add] <;> rw [hmm] <;> omega
  -- kinds 0 and 1
  have k01 : ∀ k, k ≤ 1 → ∃ t hand', (Option.bind (rdJ u 8 (nI a)) fun v_15 => Option.bind (wrJ u 8 (nI a) (v_15 + ((N (6 * i + 3)).toInt64 * tensF p))) fun g_16 => fX9_walks_B281 g_16) = some (t, hand') ∧ ((t = 1 ∧ ∀ r, r < 8 → wok k a (mI d p) b (fun r => (C (8 * i + r)).toInt) r ∧ (hand' r).toInt = wval k a (mI d p) b c (fun r => (C (8 * i + r)).toInt) r ∧ Fit (hand' r)) ∨ (t = 0 ∧ ∃ r, r < 8 ∧ ¬ (wok k a (mI d p) b (fun r => (C (8 * i + r)).toInt) r ∧ (wval k a (mI d p) b c (fun r => (C (8 * i + r)).toInt) r).natAbs < 1000000000000))) := by
    intro k hk1
    rw [rdJ_n ha (by decide)]
    simp only [Option.bind_some]
    rw [wrJ_n _ ha (by decide)]
    simp only [Option.bind_some]
    have sa := hsum a ha
    obtain ⟨t, g1, g2⟩ := walks_end (k := k) (a := a) (m := mI d p) (b := b) (c := c) (f := fun r => (C (8 * i + r)).toInt) (g := vp_updL u a (u a + (N (6 * i + 3)).toInt64 * tensF p)) (fun r hr => by
      refine ⟨?_, wok_of (by omega)⟩
      have e : wval k a (mI d p) b c (fun r => (C (8 * i + r)).toInt) r = if r = a then (C (8 * i + r)).toInt + mI d p else (C (8 * i + r)).toInt := by
        unfold wval
        rw [if_neg (by omega), if_pos hk1]
      rw [e]
      by_cases q : r = a
      · subst q; rw [updL_at, if_pos rfl]; exact sa
      · rw [updL_ne q, if_neg q, hu r hr]) (fun r hr => by
      by_cases q : r = a
      · subst q; rw [updL_at, sa]; omega
      · rw [updL_ne q]; have := ubound r hr; omega)
    exact ⟨t, _, g1, g2⟩
  rcases hk with rfl | rfl | rfl | ⟨d1, d9, hb, hba, h4, hk⟩
  · rw [if_pos (by decide)]; exact k01 0 (by omega)
  · rw [if_pos (by decide)]; exact k01 1 (by omega)
  · rw [if_neg (by decide), if_neg (by decide), if_pos (show nI 5 = (5 : Int32) from rfl), wrJ_n _ ha (by decide)]
    simp only [Option.bind_some]
    obtain ⟨t, g1, g2⟩ := walks_end (k := 5) (a := a) (m := mI d p) (b := b) (c := c) (f := fun r => (C (8 * i + r)).toInt) (g := vp_updL u a 0) (fun r hr => by
      refine ⟨?_, wok_of (by omega)⟩
      have e : wval 5 a (mI d p) b c (fun r => (C (8 * i + r)).toInt) r = if r = a then 0 else (C (8 * i + r)).toInt := rfl
      rw [e]
      by_cases q : r = a
      · subst q; rw [updL_at, if_pos rfl]; rfl
      · rw [updL_ne q, if_neg q, hu r hr]) (fun r hr => by
      by_cases q : r = a
      · subst q; rw [updL_at]; decide
      · rw [updL_ne q]; have := ubound r hr; omega)
    exact ⟨t, _, g1, g2⟩
  · have hub : u b = C (8 * i + b) := hu b hb
    have hfb := fit_abs.mp (hC b hb)
    rw [h4]
    have hab : a ≠ b := fun q => hba q.symm
    rcases hk with ⟨rfl, hc, hca, hcb, h5⟩ | hk34
    · -- parting
      rw [if_neg (by decide), if_pos (show nI 2 = (2 : Int32) from rfl), h5]
      have hs := mI_small d1 d9 (show p ≤ 11 by omega)
      have hpos : 0 < mI d p := by
        unfold mI
        exact Int.mul_pos (by omega) (by have : 0 < 10 ^ p := Nat.pow_pos (by decide); omega)
      have z0 : (0 : Int64).toInt = 0 := rfl
      have hne : ¬ (N (6 * i + 3)).toInt64 * tensF p = 0 := fun e => by rw [e, z0] at hmm; omega
      have e999 : (999999999999 : Int64).toInt = 999999999999 := by decide +kernel
      unfold dvJ
      rw [if_neg hne, rdJ_n hb (by decide)]
      simp only [Option.bind_some]
      obtain ⟨s, hs1, hs2⟩ := size9_toInt' (v := u b) (by rw [hub]; omega)
      rw [hub] at hs2
      rw [hs1]
      simp only [Option.bind_some]
      have hq : ((999999999999 : Int64) / ((N (6 * i + 3)).toInt64 * tensF p)).toInt = ((999999999999 / (mI d p).natAbs : Nat) : Int) := by
        rw [t64_div (by rw [e999]; omega) (by omega), e999, hmm]
        have : mI d p = ((mI d p).natAbs : Int) := by omega
        rw [this]; rfl
      have hlt : ((999999999999 : Int64) / ((N (6 * i + 3)).toInt64 * tensF p) < s) ↔ 999999999999 < (mI d p * (C (8 * i + b)).toInt).natAbs := by
        have hdd : (999999999999 / (mI d p).natAbs < (C (8 * i + b)).toInt.natAbs) ↔ 999999999999 < (C (8 * i + b)).toInt.natAbs * (mI d p).natAbs := Nat.div_lt_iff_lt_mul (show 0 < (mI d p).natAbs by omega)
        rw [Int64.lt_iff_toInt_lt, hq, hs2, Int.natAbs_mul, Nat.mul_comm (mI d p).natAbs]
        exact ⟨fun h => hdd.mp (Int.ofNat_lt.mp h), fun h => Int.ofNat_lt.mpr (hdd.mpr h)⟩
      by_cases cc : (999999999999 : Int64) / ((N (6 * i + 3)).toInt64 * tensF p) < s
      · rw [if_pos cc]
        refine ⟨0, u, rfl, Or.inr ⟨rfl, a, ha, fun q => ?_⟩⟩
        have h9 := (q.1 rfl).1 rfl
        have h10 := hlt.mp cc
        have h11 : (mI d p * (C (8 * i + b)).toInt).natAbs < 1000000000000 := h9
        omega
      · rw [if_neg cc]
        have hok : (mI d p * (C (8 * i + b)).toInt).natAbs < 1000000000000 := by
          have : ¬ 999999999999 < (mI d p * (C (8 * i + b)).toInt).natAbs := fun q => cc (hlt.mpr q)
          omega
        rw [rdJ_n hc (by decide)]
        simp only [Option.bind_some]
        rw [wrJ_n _ hc (by decide)]
        simp only [Option.bind_some]
        rw [rdJ_n ha (by decide), ix8', rdJ_n (by omega) (by decide)]
        simp only [Option.bind_some]
        rw [wrJ_n _ ha (by decide)]
        simp only [Option.bind_some]
        rw [updL_ne (fun q => hca q.symm)]
        have hprod : ((N (6 * i + 3)).toInt64 * tensF p * C (8 * i + b)).toInt = mI d p * (C (8 * i + b)).toInt := by
          rw [t64_mul] <;> rw [hmm] <;> omega
        have hva : (u a - (N (6 * i + 3)).toInt64 * tensF p * C (8 * i + b)).toInt = (C (8 * i + a)).toInt - mI d p * (C (8 * i + b)).toInt := by
          rw [t64_sub] <;> rw [hprod, hua] <;> omega
        have hvc := hsum c hc
        have hfc := fit_abs.mp (hC c hc)
        obtain ⟨t, g1, g2⟩ := walks_end (k := 2) (a := a) (m := mI d p) (b := b) (c := c) (f := fun r => (C (8 * i + r)).toInt) (g := vp_updL (vp_updL u c (u c + (N (6 * i + 3)).toInt64 * tensF p)) a (u a - (N (6 * i + 3)).toInt64 * tensF p * C (8 * i + b))) (fun r hr => by
          refine ⟨?_, fun _ => ⟨fun _ => hok, fun q => by omega⟩⟩
          have e : wval 2 a (mI d p) b c (fun r => (C (8 * i + r)).toInt) r = if r = c then (C (8 * i + r)).toInt + mI d p else if r = a then (C (8 * i + r)).toInt - mI d p * (C (8 * i + b)).toInt else (C (8 * i + r)).toInt := rfl
          rw [e]
          by_cases q : r = a
          · subst q; rw [updL_at, if_neg (fun z => hca z.symm), if_pos rfl]; exact hva
          · rw [updL_ne q]
            by_cases q2 : r = c
            · subst q2; rw [updL_at, if_pos rfl]; exact hvc
            · rw [updL_ne q2, if_neg q2, if_neg q, hu r hr]) (fun r hr => by
          by_cases q : r = a
          · subst q; rw [updL_at, hva]; omega
          · rw [updL_ne q]
            by_cases q2 : r = c
            · subst q2; rw [updL_at, hvc]; omega
            · rw [updL_ne q2]; have := ubound r hr; omega)
        exact ⟨t, _, g1, g2⟩
    · -- roots
      have hk3 : k = 3 ∨ k = 4 := by omega
      rw [if_neg (show ¬ nI k < (2 : Int32) from nI_nlt (b := 2) (by omega) (by omega)), if_neg (show ¬ nI k = (2 : Int32) from nI_ne (b := 2) (by omega) (by omega) (by decide)), if_neg (show ¬ nI k = (5 : Int32) from nI_ne (b := 5) (by omega) (by omega) (by decide)), rdJ_n hb (by decide)]
      simp only [Option.bind_some]
      have hs := mI_small d1 d9 (show p ≤ 5 by omega)
      have hP : ∀ x : Int64, x.toInt.natAbs < 9000000000000000000 → ∃ z, fX9_powerOf x (nI k - (1 : Int32)) = some z ∧ (x.toInt.natAbs < pwL k ∧ z.toInt = pwI k x.toInt ∧ z.toInt.natAbs < 1000000000000 ∨ ¬ x.toInt.natAbs < pwL k ∧ z = (1000000000000 : Int64)) := by
        intro x hx
        rcases hk3 with rfl | rfl
        · rw [show nI 3 - (1 : Int32) = (2 : Int32) from rfl]
          obtain ⟨z, q1, q2⟩ := powerOf2 (x := x) (by omega)
          refine ⟨z, q1, ?_⟩
          rcases q2 with ⟨q2, q3⟩ | ⟨q2, q3⟩
          · exact Or.inl ⟨q2, q3, by rw [q3]; exact (sq_toInt q2).2⟩
          · exact Or.inr ⟨q2, q3⟩
        · rw [show nI 4 - (1 : Int32) = (3 : Int32) from rfl]
          obtain ⟨z, q1, q2⟩ := powerOf3 (x := x) (by omega)
          refine ⟨z, q1, ?_⟩
          rcases q2 with ⟨q2, q3⟩ | ⟨q2, q3⟩
          · exact Or.inl ⟨q2, q3, by rw [q3]; exact (cube_toInt q2).2⟩
          · exact Or.inr ⟨q2, q3⟩
      obtain ⟨z1, p1, p2⟩ := hP (u b) (by rw [hub]; omega)
      rw [hub] at p2
      rw [p1]
      simp only [Option.bind_some]
      rw [wrJ_n _ hb (by decide)]
      simp only [Option.bind_some]
      rw [rdJ_n hb (by decide), updL_at]
      simp only [Option.bind_some]
      have hvb := hsum b hb
      obtain ⟨z2, p3, p4⟩ := hP (u b + (N (6 * i + 3)).toInt64 * tensF p) (by rw [hvb]; omega)
      rw [hvb] at p4
      rw [p3]
      simp only [Option.bind_some]
      have eb : (1000000000000 : Int64).toInt = 1000000000000 := by decide +kernel
      have nb : ∀ z : Int64, z.toInt.natAbs < 1000000000000 → ¬ z = (1000000000000 : Int64) := fun z hz e => by rw [e, eb] at hz; omega
      rcases p2 with ⟨a1, a2, a3⟩ | ⟨a1, a2⟩
      · rw [if_neg (nb z1 a3)]
        rcases p4 with ⟨b1, b2, b3⟩ | ⟨b1, b2⟩
        · rw [if_neg (nb z2 b3), rdJ_n ha (by decide)]
          simp only [Option.bind_some]
          rw [wrJ_n _ ha (by decide), updL_ne hab]
          simp only [Option.bind_some]
          have hva : (u a - z2 + z1).toInt = (C (8 * i + a)).toInt - (pwI k ((C (8 * i + b)).toInt + mI d p) - pwI k (C (8 * i + b)).toInt) := by
            have h7 : (u a - z2).toInt = (u a).toInt - z2.toInt := by apply t64_sub <;> rw [hua] <;> omega
            rw [t64_add] <;> rw [h7, hua] <;> omega
          obtain ⟨t, g1, g2⟩ := walks_end (k := k) (a := a) (m := mI d p) (b := b) (c := c) (f := fun r => (C (8 * i + r)).toInt) (g := vp_updL (vp_updL u b (u b + (N (6 * i + 3)).toInt64 * tensF p)) a (u a - z2 + z1)) (fun r hr => by
            refine ⟨?_, fun _ => ⟨fun q => by omega, fun _ => ⟨a1, b1⟩⟩⟩
            have e : wval k a (mI d p) b c (fun r => (C (8 * i + r)).toInt) r = if r = b then (C (8 * i + r)).toInt + mI d p else if r = a then (C (8 * i + r)).toInt - (pwI k ((C (8 * i + b)).toInt + mI d p) - pwI k (C (8 * i + b)).toInt) else (C (8 * i + r)).toInt := by
              unfold wval
              rw [if_neg (by omega), if_neg (by omega), if_neg (by omega)]
            rw [e]
            by_cases q : r = a
            · subst q; rw [updL_at, if_neg hab, if_pos rfl]; exact hva
            · rw [updL_ne q]
              by_cases q2 : r = b
              · subst q2; rw [updL_at, if_pos rfl]; exact hvb
              · rw [updL_ne q2, if_neg q2, if_neg q, hu r hr]) (fun r hr => by
            by_cases q : r = a
            · subst q; rw [updL_at, hva]; omega
            · rw [updL_ne q]
              by_cases q2 : r = b
              · subst q2; rw [updL_at, hvb]; omega
              · rw [updL_ne q2]; have := ubound r hr; omega)
          exact ⟨t, _, g1, g2⟩
        · rw [if_pos b2]
          exact ⟨0, _, rfl, Or.inr ⟨rfl, a, ha, fun q => b1 ((q.1 rfl).2 hk3).2⟩⟩
      · rw [if_pos a2]
        exact ⟨0, _, rfl, Or.inr ⟨rfl, a, ha, fun q => a1 ((q.1 rfl).2 hk3).1⟩⟩
