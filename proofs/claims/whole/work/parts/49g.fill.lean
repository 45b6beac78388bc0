/-! ===== fill ===== -/
theorem nI_p1 (i : Nat) : nI (i + 1) - (1 : Int32) = nI i := nI_b1 (b := i + 1) (by omega)
theorem walked_congr {N : Nat → Int32} {C C' : Nat → Int64} {i k a p : Nat} {d : Int} {b c : Nat} (hi : i < 48) (hV : NoteV N i k a p d b c) (hb : b < 8) (hC : ∀ r, r < 8 → Fit (C (8 * i + r))) (he : ∀ r, r < 8 → C' (8 * i + r) = C (8 * i + r)) {r : Nat} (hr : r < 8) : fX3_walked (nI i) (nI r) C' N = fX3_walked (nI i) (nI r) C N := by
  obtain ⟨z, h1, h2⟩ := walked_n hi hV hC hr
  obtain ⟨z', h3, h4⟩ := walked_n (C := C') hi hV (fun r hr => by rw [he r hr]; exact hC r hr) hr
  have hfg : ∀ r, r < 8 → (fun r => (C' (8 * i + r)).toInt) r = (fun r => (C (8 * i + r)).toInt) r := fun r hr => by show (C' (8 * i + r)).toInt = (C (8 * i + r)).toInt; rw [he r hr]
  have e1 := wval_congr (k := k) (a := a) (m := mI d p) (c := c) hfg hb hr
  have e2 : wok k a (mI d p) b (fun r => (C' (8 * i + r)).toInt) r ↔ wok k a (mI d p) b (fun r => (C (8 * i + r)).toInt) r := ⟨fun q => wok_congr hfg hb q, fun q => wok_congr (fun r hr => (hfg r hr).symm) hb q⟩
  rw [h1, h3]
  rcases h2 with ⟨a1, a2, a3⟩ | ⟨a1, a2⟩
  · rcases h4 with ⟨b1, b2, b3⟩ | ⟨b1, b2⟩
    · rw [Int64.toInt_inj.mp (a3.trans (e1.symm.trans b3.symm))]
    · exact absurd ⟨e2.mpr a1, by rw [e1]; exact a2⟩ b1
  · rcases h4 with ⟨b1, b2, b3⟩ | ⟨b1, b2⟩
    · exact absurd ⟨e2.mp b1, by rw [← e1]; exact b2⟩ a1
    · rw [a2, b2]
theorem CP_walk {b : Nat} {N : Nat → Int32} {Cc Cc' : Nat → Int64} {Cn : Nat → Int32} {My : Nat → Int64} {Mg Mn : Nat → Int32} (h : CP b N Cc Cn My Mg Mn) {i : Nat} (hi : i + 1 < b) (hng : ∀ r, r < 8 → ¬ Cc (8 * i + r) = LOSTv) (he : ∀ r, r < 8 → Cc' (8 * i + r) = Cc (8 * i + r)) {r : Nat} (hr : r < 8) : fX3_walked (nI i) (nI r) Cc' Cn = fX3_walked (nI i) (nI r) Cc Cn := by
  obtain ⟨b1, b49, hn, hok, hcell⟩ := h
  obtain ⟨k, a, p, d, b', c, hV, hb'⟩ := NoteOk_V8 (hok i hi)
  have hVc : NoteV Cn i k a p d b' c := NoteV_congr (fun j hj => (hn _ (by omega)).1) hV
  refine walked_congr (by omega) hVc hb' (fun r hr => ?_) he hr
  obtain ⟨g1, g2⟩ := hcell (8 * i + r) (by omega)
  rcases g2 with ⟨-, g2⟩ | ⟨-, g2⟩
  · rw [g2]; exact g1
  · exact absurd g2 (hng r hr)
theorem CP_gap {b : Nat} {N : Nat → Int32} {Cc : Nat → Int64} {Cn : Nat → Int32} {My : Nat → Int64} {Mg Mn : Nat → Int32} (h : CP b N Cc Cn My Mg Mn) {k : Nat} (hk : k < 8 * b) : (Mg k = 0 ∧ ¬ Cc k = LOSTv ∧ Cc k = My k) ∨ (Mg k = 1 ∧ Cc k = LOSTv) := by
  obtain ⟨b1, b49, hn, hok, hcell⟩ := h
  obtain ⟨g1, g2⟩ := hcell k hk
  rcases g2 with ⟨g2, g3⟩ | ⟨g2, g3⟩
  · exact Or.inl ⟨g2, by rw [g3]; exact lost_not_fit g1, g3⟩
  · exact Or.inr ⟨g2, g3⟩
theorem CP_upd {b : Nat} {N : Nat → Int32} {Cc Cc' : Nat → Int64} {Cn : Nat → Int32} {My My' : Nat → Int64} {Mg Mg' Mn : Nat → Int32} (h : CP b N Cc Cn My Mg Mn) (k : Nat) {v : Int64} (hv : Fit v) (h1 : Cc' k = v) (h2 : ∀ j, j ≠ k → Cc' j = Cc j) (h3 : My' k = v) (h4 : ∀ j, j ≠ k → My' j = My j) (h5 : Mg' k = 0) (h6 : ∀ j, j ≠ k → Mg' j = Mg j) : CP b N Cc' Cn My' Mg' Mn := by
  obtain ⟨b1, b49, hn, hok, hcell⟩ := h
  refine ⟨b1, b49, hn, hok, fun j hj => ?_⟩
  by_cases e : j = k
  · subst e
    rw [h1, h3, h5]
    exact ⟨hv, Or.inl ⟨rfl, rfl⟩⟩
  · rw [h2 j e, h4 j e, h6 j e]
    exact hcell j hj
def AGR (C : Nat → Int64) (z : Nat → Int64) (i r : Nat) : Prop := ¬ z r = LOSTv ∧ (C (8 * (i + 1) + r) = LOSTv ∨ C (8 * (i + 1) + r) = z r)
theorem agrees_n {C : Nat → Int64} {N : Nat → Int32} {i : Nat} (z : Nat → Int64) (hi : i < 48) (hz : ∀ r, r < 8 → fX3_walked (nI i) (nI r) C N = some (z r)) : ((∀ r, r < 8 → AGR C z i r) ∧ fX1_agrees (nI (i + 1)) C N = some 1) ∨ ((∃ r, r < 8 ∧ ¬ AGR C z i r) ∧ fX1_agrees (nI (i + 1)) C N = some 0) := by
  obtain ⟨e, h1, h2⟩ := itr_ex (f := fX1_agrees_L2 (nI (i + 1)) C N) (fun m s => ∃ j, j ≤ 8 ∧ m = 8 - j ∧ s = nI j ∧ ∀ r, r < j → AGR C z i r) (fun e => (e = .inl () ∧ ∀ r, r < 8 → AGR C z i r) ∨ (e = .inr 0 ∧ ∃ r, r < 8 ∧ ¬ AGR C z i r)) (fun m s hI => by
    obtain ⟨j, hj, rfl, rfl, ht⟩ := hI
    show (∃ e, fX1_agrees_L2b (nI (i + 1)) C N (nI j) = some (.inr e) ∧ _) ∨ ∃ j' s', j' < 8 - j ∧ fX1_agrees_L2b (nI (i + 1)) C N (nI j) = some (.inl s') ∧ _
    unfold fX1_agrees_L2b
    rcases Nat.lt_or_ge j 8 with h | h
    · have go : ∀ q : AGR C z i j, ∃ j' s', j' < 8 - j ∧ (some (Sum.inl (nI (j + 1))) : Option (Int32 ⊕ (Unit ⊕ Int32))) = some (.inl s') ∧ ∃ j, j ≤ 8 ∧ j' = 8 - j ∧ s' = nI j ∧ ∀ r, r < j → AGR C z i r := by
        intro q
        refine ⟨8 - (j + 1), nI (j + 1), by omega, rfl, j + 1, by omega, rfl, rfl, fun r hr => ?_⟩
        rcases Nat.lt_or_ge r j with q' | q'
        · exact ht r q'
        · have : r = j := by omega
          subst this
          exact q
      rw [if_pos (lt8 h), nI_p1, hz j h, cell_n (by omega)]
      simp only [Option.bind_some, nI_inc]
      by_cases c1 : z j = LOSTv
      · left
        rw [if_pos c1]
        exact ⟨_, rfl, Or.inr ⟨rfl, j, h, fun q => q.1 c1⟩⟩
      · rw [if_neg c1]
        by_cases c2 : C (8 * (i + 1) + j) = LOSTv
        · right
          rw [if_pos c2]
          exact go ⟨c1, Or.inl c2⟩
        · rw [if_neg c2]
          by_cases c3 : C (8 * (i + 1) + j) = z j
          · right
            rw [if_pos c3]
            exact go ⟨c1, Or.inr c3⟩
          · left
            rw [if_neg c3]
            exact ⟨_, rfl, Or.inr ⟨rfl, j, h, fun q => by
              rcases q.2 with q | q
              · exact c2 q
              · exact c3 q⟩⟩
    · left
      have : j = 8 := by omega
      subst this
      rw [if_neg (by decide)]
      exact ⟨_, rfl, Or.inl ⟨rfl, ht⟩⟩) KF 8 (0 : Int32) (KF_lt (by decide)) ⟨0, by omega, rfl, rfl, fun k hk => absurd hk (by omega)⟩
  unfold fX1_agrees
  rw [h1]
  rcases h2 with ⟨rfl, h2⟩ | ⟨rfl, h2⟩
  · exact Or.inl ⟨h2, rfl⟩
  · exact Or.inr ⟨h2, rfl⟩
theorem change_eq {f : Nat → Int64} {i r : Nat} {v : Int64} (h : 8 * i + r < 392) (hv : f (8 * i + r) = v) : fX1_change (nI i) (nI r) v f = some (0, f) := by
  unfold fX1_change
  rw [cell_n h]
  simp only [Option.bind_some]
  rw [if_pos hv]
theorem change_ne {f : Nat → Int64} {i r : Nat} {v : Int64} (h : 8 * i + r < 392) (hv : ¬ f (8 * i + r) = v) : fX1_change (nI i) (nI r) v f = some (1, vp_updL f (8 * i + r) v) := by
  unfold fX1_change
  rw [cell_n h]
  simp only [Option.bind_some]
  rw [if_neg hv, put_n v h]
  rfl
theorem fill8_none {C : Nat → Int64} {N : Nat → Int32} {i : Nat} (z : Nat → Int64) (hi : i < 48) (hz : ∀ r, r < 8 → fX3_walked (nI i) (nI r) C N = some (z r)) (ha : ∀ r, r < 8 → C (8 * (i + 1) + r) = z r) : fX1_fillBoard (nI (i + 1)) C N = some (0, C) := by
  unfold fX1_fillBoard
  have hl : itr (fX1_fillBoard_L4 (nI (i + 1)) N) KF ((0 : Int32), (0 : Int32), C) = some ((0 : Int32), C) := itr_to (f := fX1_fillBoard_L4 (nI (i + 1)) N) (fun j => ((0 : Int32), nI j, C)) 8 ((0 : Int32), C) (fun j hj => by
    show fX1_fillBoard_L4b (nI (i + 1)) N 0 (nI j) C = some (.inl (0, nI (j + 1), C))
    unfold fX1_fillBoard_L4b
    rw [if_pos (lt8 hj), nI_p1, hz j hj]
    simp only [Option.bind_some]
    rw [change_eq (by omega) (ha j hj)]
    simp only [bn2, Option.bind_some, nI_inc]
    rfl) (by
    show fX1_fillBoard_L4b (nI (i + 1)) N 0 (nI 8) C = some (.inr (0, C))
    unfold fX1_fillBoard_L4b
    rw [if_neg (by decide)]) (KF_lt (by decide))
  rw [hl]
  rfl
theorem fill9_check {C hand : Nat → Int64} {g : Nat → Int32} {i : Nat} (x : Int32) (hi : i < 149) : ∃ t, itr (fX9_fill_L55 x (nI i) C g hand) KF ((1 : Int32), (0 : Int32)) = some t ∧ ((t = 1 ∧ ∀ r, r < 8 → (g (8 * (i + 1) + r) = 0 → C (8 * (i + 1) + r) = hand r)) ∨ (t = 0 ∧ ∃ r, r < 8 ∧ g (8 * (i + 1) + r) = 0 ∧ ¬ C (8 * (i + 1) + r) = hand r)) := by
  obtain ⟨e, h1, h2⟩ := itr_ex (f := fX9_fill_L55 x (nI i) C g hand) (fun m s => ∃ j, j ≤ 8 ∧ m = 8 - j ∧ s.2 = nI j ∧ ((s.1 = 1 ∧ ∀ r, r < j → (g (8 * (i + 1) + r) = 0 → C (8 * (i + 1) + r) = hand r)) ∨ (s.1 = 0 ∧ ∃ r, r < 8 ∧ g (8 * (i + 1) + r) = 0 ∧ ¬ C (8 * (i + 1) + r) = hand r))) (fun t => ((t = 1 ∧ ∀ r, r < 8 → (g (8 * (i + 1) + r) = 0 → C (8 * (i + 1) + r) = hand r)) ∨ (t = 0 ∧ ∃ r, r < 8 ∧ g (8 * (i + 1) + r) = 0 ∧ ¬ C (8 * (i + 1) + r) = hand r))) (fun m s hI => by
    obtain ⟨y, w⟩ := s
    obtain ⟨j, hj, rfl, hx, hy⟩ := hI
    dsimp only at hx hy
    subst hx
    show (∃ e, fX9_fill_L55b x (nI i) C g hand y (nI j) = some (.inr e) ∧ _) ∨ ∃ j' s', j' < 8 - j ∧ fX9_fill_L55b x (nI i) C g hand y (nI j) = some (.inl s') ∧ _
    unfold fX9_fill_L55b
    rcases Nat.lt_or_ge j 8 with h | h
    · right
      rw [if_pos (lt8 h)]
      rcases hy with ⟨rfl, hy⟩ | ⟨rfl, hy⟩
      · rw [i10, ix8p, rdI_n (by omega) (by decide)]
        simp only [Option.bind_some, nI_inc]
        by_cases c0 : g (8 * (i + 1) + j) = 0
        · rw [if_pos c0, rdJ_n (by omega) (by decide), rdJ_n h (by decide)]
          simp only [Option.bind_some]
          by_cases c : C (8 * (i + 1) + j) = hand j
          · rw [if_pos c]
            refine ⟨8 - (j + 1), _, by omega, rfl, j + 1, by omega, rfl, rfl, Or.inl ⟨rfl, fun r hr => ?_⟩⟩
            rcases Nat.lt_or_ge r j with q | q
            · exact hy r q
            · have : r = j := by omega
              subst this
              exact fun _ => c
          · rw [if_neg c]
            exact ⟨8 - (j + 1), _, by omega, rfl, j + 1, by omega, rfl, rfl, Or.inr ⟨rfl, j, h, c0, c⟩⟩
        · rw [if_neg c0]
          refine ⟨8 - (j + 1), _, by omega, rfl, j + 1, by omega, rfl, rfl, Or.inl ⟨rfl, fun r hr => ?_⟩⟩
          rcases Nat.lt_or_ge r j with q | q
          · exact hy r q
          · have : r = j := by omega
            subst this
            exact fun q => absurd q c0
      · rw [i00, nI_inc]
        exact ⟨8 - (j + 1), _, by omega, rfl, j + 1, by omega, rfl, rfl, Or.inr ⟨rfl, hy⟩⟩
    · left
      have : j = 8 := by omega
      subst this
      rw [if_neg (by decide)]
      exact ⟨_, rfl, hy⟩) KF 8 ((1 : Int32), (0 : Int32)) (KF_lt (by decide)) ⟨0, by omega, rfl, rfl, Or.inl ⟨rfl, fun k hk => absurd hk (by omega)⟩⟩
  exact ⟨e, h1, h2⟩
theorem fill_row {b : Nat} {N : Nat → Int32} {Cc : Nat → Int64} {Cn : Nat → Int32} {My : Nat → Int64} {Mg Mn : Nat → Int32} (h : CP b N Cc Cn My Mg Mn) {i : Nat} (hi : i + 1 < b) (hng : ∀ r, r < 8 → ¬ Cc (8 * i + r) = LOSTv) (z hand : Nat → Int64) (hz : ∀ r, r < 8 → fX3_walked (nI i) (nI r) Cc Cn = some (z r)) (hh : ∀ r, r < 8 → hand r = z r ∧ Fit (z r)) (ha : ∀ r, r < 8 → AGR Cc z i r) (x : Int32) : ∃ (c : Int32) (Cc' My' : Nat → Int64) (Mg' : Nat → Int32), fX1_fillBoard (nI (i + 1)) Cc Cn = some (c, Cc') ∧ itr (fX9_fill_L125 (nI i) 1 hand) KF (x, (0 : Int32), My, Mg) = some (x + c, My', Mg') ∧ CP b N Cc' Cn My' Mg' Mn := by
  have hb := h.2.1
  obtain ⟨e, e', h1, h2, h3⟩ := itr_rel (f := fX1_fillBoard_L4 (nI (i + 1)) Cn) (g := fX9_fill_L125 (nI i) 1 hand)
    (fun m s t => ∃ j c Cc' My' Mg', j ≤ 8 ∧ m = 8 - j ∧ s = (c, nI j, Cc') ∧ t = (x + c, nI j, My', Mg') ∧ CP b N Cc' Cn My' Mg' Mn ∧ (∀ r, r < 8 → Cc' (8 * i + r) = Cc (8 * i + r)) ∧ ∀ r, j ≤ r → r < 8 → AGR Cc' z i r)
    (fun e e' => ∃ c Cc' My' Mg', e = (c, Cc') ∧ e' = (x + c, My', Mg') ∧ CP b N Cc' Cn My' Mg' Mn)
    (fun m s t hI => by
      obtain ⟨j, c, Cc', My', Mg', hj, rfl, rfl, rfl, hC, hrow, hag⟩ := hI
      show (∃ e e', fX1_fillBoard_L4b (nI (i + 1)) Cn c (nI j) Cc' = some (.inr e) ∧ fX9_fill_L125b (nI i) 1 hand (x + c) (nI j) My' Mg' = some (.inr e') ∧ _) ∨ ∃ k s' t', k < 8 - j ∧ fX1_fillBoard_L4b (nI (i + 1)) Cn c (nI j) Cc' = some (.inl s') ∧ fX9_fill_L125b (nI i) 1 hand (x + c) (nI j) My' Mg' = some (.inl t') ∧ _
      unfold fX1_fillBoard_L4b fX9_fill_L125b
      rcases Nat.lt_or_ge j 8 with hj8 | hj8
      · right
        have hk : 8 * (i + 1) + j < 8 * b := by omega
        obtain ⟨ag1, ag2⟩ := hag j (Nat.le_refl j) hj8
        obtain ⟨hh1, hh2⟩ := hh j hj8
        rw [if_pos (lt8 hj8), if_pos (lt8 hj8), nI_p1, CP_walk h hi hng hrow hj8, hz j hj8, i10, ix8p, rdI_n (by omega) (by decide)]
        simp only [Option.bind_some]
        rcases CP_gap hC hk with ⟨g1, g2, g3⟩ | ⟨g1, g2⟩
        · rw [if_pos g1]
          have e1 : Cc' (8 * (i + 1) + j) = z j := by
            rcases ag2 with q | q
            · exact absurd q g2
            · exact q
          rw [change_eq (by omega) e1, wrZ_n _ (by omega) (by decide)]
          simp only [bn2, Option.bind_some]
          rw [rdJ_n hj8 (by decide)]
          simp only [Option.bind_some]
          rw [wrJ_n _ (by omega) (by decide)]
          simp only [Option.bind_some, nI_inc]
          refine ⟨8 - (j + 1), _, _, by omega, rfl, rfl, j + 1, c + 0, Cc', _, _, by omega, rfl, rfl, by rw [Int32.add_zero, Int32.add_zero], ?_, hrow, fun r q1 q2 => hag r (by omega) q2⟩
          exact CP_upd hC (8 * (i + 1) + j) hh2 e1 (fun _ _ => rfl) (by rw [updL_at, hh1]) (fun k hk => updL_ne hk) (by rw [upd_at]; rfl) (fun k hk => upd_ne hk)
        · rw [if_neg (show ¬ Mg' (8 * (i + 1) + j) = 0 by rw [g1]; decide)]
          rw [change_ne (by omega) (fun q => ag1 (q.symm.trans g2)), wrZ_n _ (by omega) (by decide)]
          simp only [bn2, Option.bind_some]
          rw [rdJ_n hj8 (by decide)]
          simp only [Option.bind_some]
          rw [wrJ_n _ (by omega) (by decide)]
          simp only [Option.bind_some, nI_inc]
          refine ⟨8 - (j + 1), _, _, by omega, rfl, rfl, j + 1, c + 1, _, _, _, by omega, rfl, rfl, by rw [Int32.add_assoc], ?_, fun r hr => ?_, fun r q1 q2 => ?_⟩
          · exact CP_upd hC (8 * (i + 1) + j) hh2 (updL_at _ _ _) (fun k hk => updL_ne hk) (by rw [updL_at, hh1]) (fun k hk => updL_ne hk) (by rw [upd_at]; rfl) (fun k hk => upd_ne hk)
          · rw [updL_ne (by omega)]; exact hrow r hr
          · have := hag r (by omega) q2
            unfold AGR at this ⊢
            rw [updL_ne (by omega)]
            exact this
      · left
        have : j = 8 := by omega
        subst this
        rw [if_neg (by decide), if_neg (by decide)]
        exact ⟨_, _, rfl, rfl, c, Cc', My', Mg', rfl, rfl, hC⟩) KF 8 ((0 : Int32), (0 : Int32), Cc) (x, (0 : Int32), My, Mg) (KF_lt (by decide)) ⟨0, 0, Cc, My, Mg, by omega, rfl, rfl, by rw [Int32.add_zero]; rfl, h, fun _ _ => rfl, fun r _ q => ha r q⟩
  unfold fX1_fillBoard
  rw [h1, h2]
  obtain ⟨c, Cc', My', Mg', rfl, rfl, h3⟩ := h3
  exact ⟨c, Cc', My', Mg', rfl, rfl, h3⟩
theorem fill_both {b : Nat} {N : Nat → Int32} {Cc : Nat → Int64} {Cn : Nat → Int32} {My : Nat → Int64} {Mg Mn : Nat → Int32} (h : CP b N Cc Cn My Mg Mn) (hand : Nat → Int64) : ∃ (c : Int32) (Cc' My' hand' : Nat → Int64) (Mg' : Nat → Int32), fX1_fillGaps (nI b) Cc Cn = some (c, Cc') ∧ itr (fX9_fill_L14 (nI b) Mn) KF ((0 : Int32), (0 : Int32), My, Mg, hand) = some (c, My', Mg', hand') ∧ CP b N Cc' Cn My' Mg' Mn := by
  have hb1 := h.1
  have hb := h.2.1
  obtain ⟨e, e', h1, h2, h3⟩ := itr_rel (f := fX1_fillGaps_L4 (nI b) Cn) (g := fX9_fill_L14 (nI b) Mn)
    (fun m s t => ∃ i c Cc' My' Mg' hd, i + 1 ≤ b ∧ m = b - 1 - i ∧ s = (c, nI (i + 1), Cc') ∧ t = (c, nI i, My', Mg', hd) ∧ CP b N Cc' Cn My' Mg' Mn)
    (fun e e' => ∃ c Cc' My' Mg' hd, e = (c, Cc') ∧ e' = (c, My', Mg', hd) ∧ CP b N Cc' Cn My' Mg' Mn)
    (fun m s t hI => by
      obtain ⟨i, c, Cc', My', Mg', hd, hi, rfl, rfl, rfl, hC⟩ := hI
      show (∃ e e', fX1_fillGaps_L4b (nI b) Cn c (nI (i + 1)) Cc' = some (.inr e) ∧ fX9_fill_L14b (nI b) Mn c (nI i) My' Mg' hd = some (.inr e') ∧ _) ∨ ∃ k s' t', k < b - 1 - i ∧ fX1_fillGaps_L4b (nI b) Cn c (nI (i + 1)) Cc' = some (.inl s') ∧ fX9_fill_L14b (nI b) Mn c (nI i) My' Mg' hd = some (.inl t') ∧ _
      unfold fX1_fillGaps_L4b fX9_fill_L14b fX3_size
      rw [nI_b1 hb1]
      simp only [Option.bind_some]
      rcases Nat.lt_or_ge i (b - 1) with hlt | hge
      · right
        have hi1 : i + 1 < b := by omega
        have hi49 : i < 49 := by omega
        have hb31 : b < 2 ^ 31 := by omega
        have hb32 : b - 1 < 2 ^ 31 := by omega
        have hgap : ∀ k, k < 8 * b → (Cc' k = LOSTv ↔ ¬ Mg' k = 0) := by
          intro k hk
          rcases CP_gap hC hk with ⟨g1, g2, g3⟩ | ⟨g1, g2⟩
          · exact ⟨fun q => absurd q g2, fun q => absurd g1 q⟩
          · exact ⟨fun _ => by rw [g1]; decide, fun _ => g2⟩
        obtain ⟨v1, g1, g2⟩ := hasGap_n (g := Mg') (i := i) (by omega)
        obtain ⟨v2, g3, g4⟩ := hasGap_n (g := Mg') (i := i + 1) (by omega)
        have l1 := cg_le Cc' i 8
        rw [if_pos (nI_lt hi1 hb31), if_pos (nI_lt hlt hb32), nI_p1, gapsIn_n (f := Cc') hi49, nI_inc, nI_inc, g1, g3]
        simp only [Option.bind_some]
        have same : ∃ k s' t', k < b - 1 - i ∧ (some (Sum.inl (c, nI (i + 1 + 1), Cc')) : Option ((Int32 × Int32 × (Nat → Int64)) ⊕ (Int32 × (Nat → Int64)))) = some (.inl s') ∧ (some (Sum.inl (c, nI (i + 1), My', Mg', hd)) : Option ((Int32 × Int32 × (Nat → Int64) × (Nat → Int32) × (Nat → Int64)) ⊕ (Int32 × (Nat → Int64) × (Nat → Int32) × (Nat → Int64)))) = some (.inl t') ∧ ∃ i c Cc' My' Mg' hd, i + 1 ≤ b ∧ k = b - 1 - i ∧ s' = (c, nI (i + 1), Cc') ∧ t' = (c, nI i, My', Mg', hd) ∧ CP b N Cc' Cn My' Mg' Mn :=
          ⟨b - 1 - (i + 1), _, _, by omega, rfl, rfl, i + 1, c, Cc', My', Mg', hd, by omega, rfl, rfl, rfl, hC⟩
        rcases g2 with ⟨rfl, r, hr, g2⟩ | ⟨rfl, g2⟩
        · have : 0 < cg Cc' i 8 := (cg_pos Cc' i 8).mpr ⟨r, hr, (hgap _ (by omega)).mpr g2⟩
          rw [if_neg (fun q => by have := (nI_z (by omega)).mp q; omega), i10]
          exact same
        · have hng : ∀ r, r < 8 → ¬ Cc' (8 * i + r) = LOSTv := fun r hr q => (hgap _ (by omega)).mp q (g2 r hr)
          have hz0 : cg Cc' i 8 = 0 := by
            rcases Nat.eq_zero_or_pos (cg Cc' i 8) with q | q
            · exact q
            · obtain ⟨r, hr, q⟩ := (cg_pos Cc' i 8).mp q
              exact absurd q (hng r hr)
          obtain ⟨z, t, hand', w1, w2, w3⟩ := walk_both hC hi1 hng hd
          rw [if_pos ((nI_z (by omega)).mpr hz0), i00]
          have hag := agrees_n (C := Cc') (N := Cn) z (by omega) w1
          rcases g4 with ⟨rfl, g4⟩ | ⟨rfl, g4⟩
          · rw [i10, w2]
            simp only [bn2, Option.bind_some]
            rcases w3 with ⟨rfl, w3⟩ | ⟨rfl, r, hr, w3⟩
            · rw [i10]
              obtain ⟨t, t1, t2⟩ := fill9_check (C := My') (hand := hand') (g := Mg') (i := i) c (by omega)
              rw [t1]
              simp only [Option.bind_some]
              rcases hag with ⟨a1, a2⟩ | ⟨⟨r, hr, a1⟩, a2⟩
              · have : t = 1 := by
                  rcases t2 with ⟨q, -⟩ | ⟨-, r, hr, q1, q2⟩
                  · exact q
                  · exfalso
                    rcases CP_gap hC (k := 8 * (i + 1) + r) (by omega) with ⟨u1, u2, u3⟩ | ⟨u1, u2⟩
                    · apply q2
                      rw [(w3 r hr).1, ← u3]
                      rcases (a1 r hr).2 with q | q
                      · exact absurd q u2
                      · exact q
                    · rw [u1] at q1
                      exact absurd q1 (by decide)
                subst this
                rw [a2]
                obtain ⟨d, C2, M2, G2, u1, u2, u3⟩ := fill_row hC hi1 hng z hand' w1 w3 a1 c
                simp only [Option.bind_some, i10]
                rw [u1, u2]
                simp only [bn2, bn3, Option.bind_some]
                exact ⟨b - 1 - (i + 1), _, _, by omega, rfl, rfl, i + 1, c + d, C2, M2, G2, hand', by omega, rfl, rfl, rfl, u3⟩
              · have : t = 0 := by
                  rcases t2 with ⟨-, q⟩ | ⟨q, -⟩
                  · exfalso
                    apply a1
                    refine ⟨lost_not_fit (w3 r hr).2, ?_⟩
                    rcases CP_gap hC (k := 8 * (i + 1) + r) (by omega) with ⟨u1, u2, u3⟩ | ⟨u1, u2⟩
                    · right
                      rw [u3, q r hr u1, (w3 r hr).1]
                    · exact Or.inl u2
                  · exact q
                subst this
                rw [a2]
                have hs : itr (fX9_fill_L125 (nI i) 0 hand') KF (c, (0 : Int32), My', Mg') = some (c, My', Mg') := rfl
                rw [hs]
                simp only [bn3, Option.bind_some]
                exact ⟨b - 1 - (i + 1), _, _, by omega, rfl, rfl, i + 1, c, Cc', My', Mg', hand', by omega, rfl, rfl, rfl, hC⟩
            · have : fX1_agrees (nI (i + 1)) Cc' Cn = some 0 := by
                rcases hag with ⟨a1, -⟩ | ⟨-, a2⟩
                · exact absurd w3 (a1 r hr).1
                · exact a2
              rw [this]
              exact ⟨b - 1 - (i + 1), _, _, by omega, rfl, rfl, i + 1, c, Cc', My', Mg', hand', by omega, rfl, rfl, rfl, hC⟩
          · rw [i00]
            rcases hag with ⟨a1, a2⟩ | ⟨a1, a2⟩
            · rw [a2]
              have hn2 : ∀ r, r < 8 → Cc' (8 * (i + 1) + r) = z r := by
                intro r hr
                rcases (a1 r hr).2 with q | q
                · exact absurd (g4 r hr) ((hgap _ (by omega)).mp q)
                · exact q
              rw [fill8_none z (by omega) w1 hn2]
              simp only [Option.bind_some, i10, bn2]
              exact ⟨b - 1 - (i + 1), _, _, by omega, rfl, rfl, i + 1, c, Cc', My', Mg', hd, by omega, rfl, by rw [Int32.add_zero], rfl, hC⟩
            · rw [a2]
              exact same
      · left
        have : i = b - 1 := by omega
        rw [if_neg (nI_nlt (show b ≤ i + 1 by omega) (by omega)), if_neg (nI_nlt hge (by omega))]
        exact ⟨_, _, rfl, rfl, c, Cc', My', Mg', hd, rfl, rfl, hC⟩) KF (b - 1) ((0 : Int32), (1 : Int32), Cc) ((0 : Int32), (0 : Int32), My, Mg, hand) (KF_lt (by omega)) ⟨0, 0, Cc, My, Mg, hand, by omega, by omega, rfl, rfl, h⟩
  obtain ⟨c, Cc', My', Mg', hd, rfl, rfl, h3⟩ := h3
  unfold fX1_fillGaps
  rw [h1]
  exact ⟨c, Cc', My', hd, Mg', rfl, h2, h3⟩
theorem RC_CP {b : Nat} {Xb : Int32} {Xc : Nat → Int64} {Xn : Nat → Int32} {Mb : Int32} {Mc : Nat → Int64} {Mn : Nat → Int32} {Cc : Nat → Int64} {Cn : Nat → Int32} {My : Nat → Int64} {Mg : Nat → Int32} (hw : RCw b Xb Xc Xn Mb Mc Mn) (hcn : ∀ k, k + 6 < 6 * b → Cn k = Xn k) (h : CP b Xn Cc Cn My Mg Mn) : RC Xb Xc Xn (nI b) Cc Cn Mb Mc Mn 1 My Mg :=
  ⟨b, hw, Or.inr ⟨rfl, h.1, rfl, hcn, h.2.2.2.2⟩⟩
theorem G_fill {Xb Xc Xn Cb Cc Cn Mb Mc Mn Mh My Mg} (hand : Nat → Int64) (h : RC Xb Xc Xn Cb Cc Cn Mb Mc Mn Mh My Mg) : ∃ (r : Int32) (o1 q1 : Nat → Int64) (q2 : Nat → Int32) (q3 : Nat → Int64), fX8_fill Cb Cc Cn = some (r, o1) ∧ fX9_fill Mb Mh Mn My Mg hand = some (r, q1, q2, q3) ∧ RC Xb Xc Xn Cb o1 Cn Mb Mc Mn Mh q1 q2 := by
  obtain ⟨b, hw, hcc⟩ := id h
  obtain ⟨hb, rfl, rfl, hc, hn, hok⟩ := id hw
  unfold fX8_fill fX9_fill
  rcases hcc with ⟨rfl, rfl⟩ | ⟨rfl, h1, rfl, hcn, hcell⟩
  · rw [hasCopy_0, if_pos rfl]
    exact ⟨_, _, _, _, _, rfl, rfl, h⟩
  · rw [hasCopy_1 (by omega) h1]
    simp only [Option.bind_some, i10]
    obtain ⟨c, C2, M2, hd, G2, g1, g2, g3⟩ := fill_both (CP_of hw h1 hcn hcell) hand
    rw [g1, g2]
    exact ⟨c, C2, M2, G2, hd, rfl, rfl, RC_CP hw hcn g3⟩
