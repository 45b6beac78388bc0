/-! ===== workings: one step ===== -/
theorem NoteV_ok {N : Nat → Int32} {i k a p : Nat} {d : Int} {b c : Nat} (h : NoteV N i k a p d b c) : NoteOk N i := by
  obtain ⟨h0, h1, h2, h3, ha, hp, hd, hk⟩ := h
  refine ⟨k, a, p, d, h0, h1, h2, h3, ha, hp, by omega, by omega, ?_⟩
  rcases hk with q | q | q | ⟨d1, d9, hb, hba, h4, hk⟩
  · exact Or.inl q
  · exact Or.inr (Or.inl q)
  · exact Or.inr (Or.inr (Or.inl q))
  · refine Or.inr (Or.inr (Or.inr ⟨d1, d9, b, hb, hba, h4, ?_⟩))
    rcases hk with ⟨q, hc, hca, hcb, h5⟩ | q | q
    · exact Or.inl ⟨q, c, hc, hca, hcb, h5⟩
    · exact Or.inr (Or.inl q)
    · exact Or.inr (Or.inr q)
theorem ix60 (i : Nat) : (6 : Int32) * nI i = nI (6 * i) := nI_mul 6 i
theorem ix6n (i r : Nat) : nI (6 * i) + Int32.ofNat r = nI (6 * i + r) := nI_add (6 * i) r
theorem six (f : Nat → Int32) (j : Nat) (p0 p1 p2 p3 p4 p5 : Int32) : ∃ g, g = upd (upd (upd (upd (upd (upd f (6 * j) p0) (6 * j + 1) p1) (6 * j + 2) p2) (6 * j + 3) p3) (6 * j + 4) p4) (6 * j + 5) p5 ∧ (∀ k, k < 6 * j → g k = f k) ∧ g (6 * j) = p0 ∧ g (6 * j + 1) = p1 ∧ g (6 * j + 2) = p2 ∧ g (6 * j + 3) = p3 ∧ g (6 * j + 4) = p4 ∧ g (6 * j + 5) = p5 := by
  refine ⟨_, rfl, fun k hk => ?_, ?_, ?_, ?_, ?_, ?_, ?_⟩
  · rw [upd_ne (by omega), upd_ne (by omega), upd_ne (by omega), upd_ne (by omega), upd_ne (by omega), upd_ne (by omega)]
  · rw [upd_ne (by omega), upd_ne (by omega), upd_ne (by omega), upd_ne (by omega), upd_ne (by omega), upd_at]
  · rw [upd_ne (by omega), upd_ne (by omega), upd_ne (by omega), upd_ne (by omega), upd_at]
  · rw [upd_ne (by omega), upd_ne (by omega), upd_ne (by omega), upd_at]
  · rw [upd_ne (by omega), upd_ne (by omega), upd_at]
  · rw [upd_ne (by omega), upd_at]
  · rw [upd_at]
theorem step9_loop {j : Nat} (hj : j < 150) (isB : Int32) (hB : isB = 0 ∨ isB = 1) (hand nb : Nat → Int64) (hN : ∀ r, r < 8 → -9223372036854775808 < (hand r).toInt) : ∃ isB' nb', itr (fX9_step_L83 (nI j) hand) KF ((0 : Int32), isB, nb) = some (isB', nb') ∧ ((isB' = 0 ∧ isB = 0 ∧ ∀ r, r < 8 → Fit (hand r)) ∨ (isB' = 1 ∧ ¬ (isB = 0 ∧ ∀ r, r < 8 → Fit (hand r)))) ∧ (∀ k, k < 8 * j → nb' k = nb k) ∧ ∀ r, r < 8 → nb' (8 * j + r) = hand r := by
  obtain ⟨e, h1, h2⟩ := itr_ex (f := fX9_step_L83 (nI j) hand) (fun m s => ∃ q, q ≤ 8 ∧ m = 8 - q ∧ s.1 = nI q ∧ ((s.2.1 = 0 ∧ isB = 0 ∧ ∀ r, r < q → Fit (hand r)) ∨ (s.2.1 = 1 ∧ ¬ (isB = 0 ∧ ∀ r, r < 8 → Fit (hand r)))) ∧ (∀ k, k < 8 * j → s.2.2 k = nb k) ∧ ∀ r, r < q → s.2.2 (8 * j + r) = hand r) (fun e => ((e.1 = 0 ∧ isB = 0 ∧ ∀ r, r < 8 → Fit (hand r)) ∨ (e.1 = 1 ∧ ¬ (isB = 0 ∧ ∀ r, r < 8 → Fit (hand r)))) ∧ (∀ k, k < 8 * j → e.2 k = nb k) ∧ ∀ r, r < 8 → e.2 (8 * j + r) = hand r) (fun m s hI => by
    obtain ⟨x, y, f⟩ := s
    obtain ⟨q, hq, rfl, hx, hy, hf1, hf2⟩ := hI
    dsimp only at hx hy hf1 hf2
    subst hx
    show (∃ e, fX9_step_L83b (nI j) hand (nI q) y f = some (.inr e) ∧ _) ∨ ∃ j' s', j' < 8 - q ∧ fX9_step_L83b (nI j) hand (nI q) y f = some (.inl s') ∧ _
    unfold fX9_step_L83b
    rcases Nat.lt_or_ge q 8 with h | h
    · right
      have u1 : ∀ k, k < 8 * j → vp_updL f (8 * j + q) (hand q) k = nb k := fun k hk => by rw [updL_ne (by omega)]; exact hf1 k hk
      have u2 : ∀ r, r < q + 1 → vp_updL f (8 * j + q) (hand q) (8 * j + r) = hand r := fun r hr => by
        by_cases e : r = q
        · subst e; rw [updL_at]
        · rw [updL_ne (by omega)]; exact hf2 r (by omega)
      rw [if_pos (lt8 h), ix8', rdJ_n h (by decide)]
      simp only [Option.bind_some]
      rw [wrJ_n _ (by omega) (by decide)]
      simp only [Option.bind_some, nI_inc]
      rcases hy with ⟨rfl, h0, hy⟩ | ⟨rfl, hy⟩
      · rw [if_pos rfl]
        by_cases c : Fit (hand q)
        · rw [(fits9 (hN q h)).1 c]
          refine ⟨8 - (q + 1), _, by omega, rfl, q + 1, by omega, rfl, rfl, Or.inl ⟨rfl, h0, fun r hr => ?_⟩, u1, u2⟩
          by_cases e : r = q
          · subst e; exact c
          · exact hy r (by omega)
        · rw [(fits9 (hN q h)).2 c]
          exact ⟨8 - (q + 1), _, by omega, rfl, q + 1, by omega, rfl, rfl, Or.inr ⟨rfl, fun z => c (z.2 q h)⟩, u1, u2⟩
      · rw [i10]
        exact ⟨8 - (q + 1), _, by omega, rfl, q + 1, by omega, rfl, rfl, Or.inr ⟨rfl, hy⟩, u1, u2⟩
    · left
      have : q = 8 := by omega
      subst this
      rw [if_neg (by decide)]
      exact ⟨_, rfl, hy, hf1, hf2⟩) KF 8 ((0 : Int32), isB, nb) (KF_lt (by decide)) ⟨0, by omega, rfl, rfl, by
      rcases hB with rfl | rfl
      · exact Or.inl ⟨rfl, rfl, fun r hr => absurd hr (by omega)⟩
      · exact Or.inr ⟨rfl, fun z => absurd z.1 (by decide)⟩, fun _ _ => rfl, fun r hr => absurd hr (by omega)⟩
  obtain ⟨e1, e2⟩ := e
  exact ⟨e1, e2, h1, h2⟩
theorem step9_n (p0 p1 p2 p3 p4 p5 : Int32) {j : Nat} (hj : j < 149) (isB : Int32) (hB : isB = 0 ∨ isB = 1) (hand nb : Nat → Int64) (hN : ∀ r, r < 8 → -9223372036854775808 < (hand r).toInt) (nn : Nat → Int32) : ∃ isB' nb' nn', fX9_step p0 p1 p2 p3 p4 p5 (nI j) isB hand nb nn = some (nI (j + 1), isB', nb', nn') ∧ ((isB' = 0 ∧ isB = 0 ∧ ∀ r, r < 8 → Fit (hand r)) ∨ (isB' = 1 ∧ ¬ (isB = 0 ∧ ∀ r, r < 8 → Fit (hand r)))) ∧ (∀ k, k < 8 * (j + 1) → nb' k = nb k) ∧ (∀ r, r < 8 → nb' (8 * (j + 1) + r) = hand r) ∧ (∀ k, k < 6 * j → nn' k = nn k) ∧ nn' (6 * j) = p0 ∧ nn' (6 * j + 1) = p1 ∧ nn' (6 * j + 2) = p2 ∧ nn' (6 * j + 3) = p3 ∧ nn' (6 * j + 4) = p4 ∧ nn' (6 * j + 5) = p5 := by
  obtain ⟨g, hg, g0, g1⟩ := six nn j p0 p1 p2 p3 p4 p5
  obtain ⟨isB', nb', h1, h2, h3, h4⟩ := step9_loop (j := j + 1) (by omega) isB hB hand nb hN
  refine ⟨isB', nb', g, ?_, h2, h3, h4, g0, g1⟩
  unfold fX9_step
  rw [ix60, wrI_n _ (by omega) (by decide)]
  simp only [Option.bind_some]
  rw [show nI (6 * j) + (1 : Int32) = nI (6 * j + 1) from nI_add _ 1, show nI (6 * j) + (2 : Int32) = nI (6 * j + 2) from nI_add _ 2, show nI (6 * j) + (3 : Int32) = nI (6 * j + 3) from nI_add _ 3, show nI (6 * j) + (4 : Int32) = nI (6 * j + 4) from nI_add _ 4, show nI (6 * j) + (5 : Int32) = nI (6 * j + 5) from nI_add _ 5]
  rw [wrI_n _ (by omega) (by decide)]
  simp only [Option.bind_some]
  rw [wrI_n _ (by omega) (by decide)]
  simp only [Option.bind_some]
  rw [wrI_n _ (by omega) (by decide)]
  simp only [Option.bind_some]
  rw [wrI_n _ (by omega) (by decide)]
  simp only [Option.bind_some]
  rw [wrI_n _ (by omega) (by decide)]
  simp only [Option.bind_some]
  rw [nI_inc, h1, ← hg]
  rfl
theorem go8_n (p0 p1 p2 p3 p4 p5 : Int32) {j k a p : Nat} {d : Int} {b c : Nat} (hj : j < 48) {C : Nat → Int64} (N : Nat → Int32) (hV : ∀ N' : Nat → Int32, N' (6 * j) = p0 → N' (6 * j + 1) = p1 → N' (6 * j + 2) = p2 → N' (6 * j + 3) = p3 → N' (6 * j + 4) = p4 → N' (6 * j + 5) = p5 → NoteV N' j k a p d b c) (hb : b < 8) (hC : ∀ r, r < 8 → Fit (C (8 * j + r))) (z : Nat → Int64) (hz : ∀ r, r < 8 → Fit (z r) ∧ (z r).toInt = wval k a (mI d p) b c (fun r => (C (8 * j + r)).toInt) r ∧ wok k a (mI d p) b (fun r => (C (8 * j + r)).toInt) r) : ∃ C' N', fX3_go p0 p1 p2 p3 p4 p5 (nI (j + 1)) C N = some (nI (j + 2), C', N') ∧ (∀ k, k < 8 * (j + 1) → C' k = C k) ∧ (∀ r, r < 8 → C' (8 * (j + 1) + r) = z r) ∧ (∀ k, k < 6 * j → N' k = N k) ∧ N' (6 * j) = p0 ∧ N' (6 * j + 1) = p1 ∧ N' (6 * j + 2) = p2 ∧ N' (6 * j + 3) = p3 ∧ N' (6 * j + 4) = p4 ∧ N' (6 * j + 5) = p5 := by
  obtain ⟨g, hg, g0, g1, g2, g3, g4, g5, g6⟩ := six N j p0 p1 p2 p3 p4 p5
  have hVg := hV g g1 g2 g3 g4 g5 g6
  obtain ⟨e, h1, h2⟩ := itr_ex (f := fX3_go_L80 (nI j) (nI (j + 1)) g) (fun m s => ∃ q, q ≤ 8 ∧ m = 8 - q ∧ s.1 = nI q ∧ (∀ k, k < 8 * (j + 1) → s.2 k = C k) ∧ ∀ r, r < q → s.2 (8 * (j + 1) + r) = z r) (fun e => (∀ k, k < 8 * (j + 1) → e k = C k) ∧ ∀ r, r < 8 → e (8 * (j + 1) + r) = z r) (fun m s hI => by
    obtain ⟨x, f⟩ := s
    obtain ⟨q, hq, rfl, hx, hf1, hf2⟩ := hI
    dsimp only at hx hf1 hf2
    subst hx
    show (∃ e, fX3_go_L80b (nI j) (nI (j + 1)) g (nI q) f = some (.inr e) ∧ _) ∨ ∃ j' s', j' < 8 - q ∧ fX3_go_L80b (nI j) (nI (j + 1)) g (nI q) f = some (.inl s') ∧ _
    unfold fX3_go_L80b
    rcases Nat.lt_or_ge q 8 with h | h
    · right
      obtain ⟨z1, z2, z3⟩ := hz q h
      have hrow : ∀ r, r < 8 → f (8 * j + r) = C (8 * j + r) := fun r hr => hf1 _ (by omega)
      obtain ⟨w, w1, w2⟩ := walked_n (C := f) (by omega) hVg (fun r hr => by rw [hrow r hr]; exact hC r hr) h
      have hfg : ∀ r, r < 8 → (fun r => (f (8 * j + r)).toInt) r = (fun r => (C (8 * j + r)).toInt) r := fun r hr => by show (f (8 * j + r)).toInt = (C (8 * j + r)).toInt; rw [hrow r hr]
      have hw : w = z q := by
        rcases w2 with ⟨-, -, a3⟩ | ⟨a1, -⟩
        · apply Int64.toInt_inj.mp
          rw [a3, z2]
          exact wval_congr hfg hb h
        · exfalso
          apply a1
          refine ⟨wok_congr (fun r hr => (hfg r hr).symm) hb z3, ?_⟩
          rw [wval_congr hfg hb h, ← z2]
          exact fit_abs.mp z1
      rw [if_pos (lt8 h), w1]
      simp only [Option.bind_some]
      rw [put_n _ (by omega), hw]
      simp only [Option.bind_some, nI_inc]
      have u1 : ∀ k, k < 8 * (j + 1) → vp_updL f (8 * (j + 1) + q) (z q) k = C k := fun k hk => by rw [updL_ne (by omega)]; exact hf1 k hk
      have u2 : ∀ r, r < q + 1 → vp_updL f (8 * (j + 1) + q) (z q) (8 * (j + 1) + r) = z r := fun r hr => by
        by_cases e : r = q
        · subst e; rw [updL_at]
        · rw [updL_ne (by omega)]; exact hf2 r (by omega)
      exact ⟨8 - (q + 1), _, by omega, rfl, q + 1, by omega, rfl, rfl, u1, u2⟩
    · left
      have : q = 8 := by omega
      subst this
      rw [if_neg (by decide)]
      exact ⟨_, rfl, hf1, hf2⟩) KF 8 ((0 : Int32), C) (KF_lt (by decide)) ⟨0, by omega, rfl, rfl, fun _ _ => rfl, fun r hr => absurd hr (by omega)⟩
  refine ⟨e, g, ?_, h2.1, h2.2, g0, g1, g2, g3, g4, g5, g6⟩
  unfold fX3_go
  rw [if_neg (show ¬ nI (j + 1) < (1 : Int32) from nI_nlt (b := 1) (by omega) (by omega)), if_neg (show ¬ (48 : Int32) < nI (j + 1) from nI_nlt (a := 48) (by omega) (by omega)), nI_p1]
  rw [show fX3_tell (nI j) (0 : Int32) p0 N = some (upd N (6 * j) p0) from tell_n (r := 0) p0 (by omega)]
  simp only [Option.bind_some]
  rw [show fX3_tell (nI j) (1 : Int32) p1 (upd N (6 * j) p0) = _ from tell_n (r := 1) p1 (by omega)]
  simp only [Option.bind_some]
  rw [show ∀ f, fX3_tell (nI j) (2 : Int32) p2 f = _ from fun f => tell_n (r := 2) p2 (by omega)]
  simp only [Option.bind_some]
  rw [show ∀ f, fX3_tell (nI j) (3 : Int32) p3 f = _ from fun f => tell_n (r := 3) p3 (by omega)]
  simp only [Option.bind_some]
  rw [show ∀ f, fX3_tell (nI j) (4 : Int32) p4 f = _ from fun f => tell_n (r := 4) p4 (by omega)]
  simp only [Option.bind_some]
  rw [show ∀ f, fX3_tell (nI j) (5 : Int32) p5 f = _ from fun f => tell_n (r := 5) p5 (by omega)]
  simp only [Option.bind_some]
  rw [← hg, h1]
  simp only [Option.bind_some, nI_inc]
/-- a work under way: j steps done, both ways -/
def CI (j : Nat) (Xb : Int32) (Xc : Nat → Int64) (Xn : Nat → Int32) (st isB : Int32) (hand nb : Nat → Int64) (nn : Nat → Int32) : Prop := j ≤ 48 ∧ Xb = nI (j + 1) ∧ st = nI j ∧ isB = 0 ∧ (∀ k, k < 8 * (j + 1) → nb k = Xc k ∧ Fit (Xc k)) ∧ (∀ k, k < 6 * j → nn k = Xn k) ∧ (∀ i, i < j → NoteOk Xn i) ∧ ∀ r, r < 8 → hand r = Xc (8 * j + r)
theorem NoteOk_congr {N N' : Nat → Int32} {i : Nat} (h : ∀ q, q < 6 → N' (6 * i + q) = N (6 * i + q)) (hN : NoteOk N i) : NoteOk N' i := by
  obtain ⟨k, a, p, d, b, c, hV⟩ := NoteOk_V hN
  exact NoteV_ok (NoteV_congr h hV)
theorem CI_step (p0 p1 p2 p3 p4 p5 : Int32) {j k a p : Nat} {d : Int} {b c : Nat} {Xb Xc Xn st isB hand nb nn} (h : CI j Xb Xc Xn st isB hand nb nn) (hj : j < 48) (hV : ∀ N' : Nat → Int32, N' (6 * j) = p0 → N' (6 * j + 1) = p1 → N' (6 * j + 2) = p2 → N' (6 * j + 3) = p3 → N' (6 * j + 4) = p4 → N' (6 * j + 5) = p5 → NoteV N' j k a p d b c) (hb : b < 8) (hand' : Nat → Int64) (hz : ∀ r, r < 8 → Fit (hand' r) ∧ (hand' r).toInt = wval k a (mI d p) b c (fun r => (hand r).toInt) r ∧ wok k a (mI d p) b (fun r => (hand r).toInt) r) : ∃ Xb' Xc' Xn' st' isB' nb' nn', fX3_go p0 p1 p2 p3 p4 p5 Xb Xc Xn = some (Xb', Xc', Xn') ∧ fX9_step p0 p1 p2 p3 p4 p5 st isB hand' nb nn = some (st', isB', nb', nn') ∧ CI (j + 1) Xb' Xc' Xn' st' isB' hand' nb' nn' := by
  obtain ⟨h48, rfl, rfl, rfl, hc, hn, hok, hh⟩ := h
  have hfg : ∀ r, r < 8 → (fun r => (Xc (8 * j + r)).toInt) r = (fun r => (hand r).toInt) r := fun r hr => by show (Xc (8 * j + r)).toInt = (hand r).toInt; rw [hh r hr]
  obtain ⟨C', N', a1, a2, a3, a4, a5, a6, a7, a8, a9, a10⟩ := go8_n p0 p1 p2 p3 p4 p5 hj (C := Xc) Xn hV hb (fun r hr => (hc _ (by omega)).2) hand' (fun r hr => by
    obtain ⟨z1, z2, z3⟩ := hz r hr
    exact ⟨z1, by rw [z2]; exact (wval_congr hfg hb hr).symm, wok_congr (fun r hr => (hfg r hr).symm) hb z3⟩)
  obtain ⟨isB', nb', nn', b1, b2, b3, b4, b5, b6, b7, b8, b9, b10, b11⟩ := step9_n p0 p1 p2 p3 p4 p5 (j := j) (by omega) 0 (Or.inl rfl) hand' nb (fun r hr => by have := fit_abs.mp (hz r hr).1; omega) nn
  have hB : isB' = 0 := by
    rcases b2 with ⟨q, -⟩ | ⟨-, q⟩
    · exact q
    · exact absurd ⟨rfl, fun r hr => (hz r hr).1⟩ q
  subst hB
  refine ⟨_, C', N', _, 0, nb', nn', a1, b1, by omega, rfl, rfl, rfl, fun k hk => ?_, fun k hk => ?_, fun i hi => ?_, fun r hr => (a3 r hr).symm⟩
  · rcases Nat.lt_or_ge k (8 * (j + 1)) with q | q
    · rw [b3 k q, a2 k q]; exact hc k q
    · obtain ⟨r, hr, rfl⟩ : ∃ r, r < 8 ∧ k = 8 * (j + 1) + r := ⟨k - 8 * (j + 1), by omega, by omega⟩
      rw [b4 r hr, a3 r hr]
      exact ⟨rfl, (hz r hr).1⟩
  · rcases Nat.lt_or_ge k (6 * j) with q | q
    · rw [b5 k q, a4 k q]; exact hn k q
    · have : k = 6 * j ∨ k = 6 * j + 1 ∨ k = 6 * j + 2 ∨ k = 6 * j + 3 ∨ k = 6 * j + 4 ∨ k = 6 * j + 5 := by omega
      rcases this with rfl | rfl | rfl | rfl | rfl | rfl
      · rw [b6, a5]
      · rw [b7, a6]
      · rw [b8, a7]
      · rw [b9, a8]
      · rw [b10, a9]
      · rw [b11, a10]
  · rcases Nat.lt_or_ge i j with q | q
    · exact NoteOk_congr (fun y hy => a4 _ (by omega)) (hok i q)
    · have : i = j := by omega
      subst this
      exact NoteV_ok (hV N' a5 a6 a7 a8 a9 a10)
