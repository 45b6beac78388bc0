/-! ===== right, blame ===== -/
theorem CP_of {b : Nat} {Xb : Int32} {Xc : Nat → Int64} {Xn : Nat → Int32} {Mb : Int32} {Mc : Nat → Int64} {Mn : Nat → Int32} {Cc : Nat → Int64} {Cn : Nat → Int32} {My : Nat → Int64} {Mg : Nat → Int32} (hw : RCw b Xb Xc Xn Mb Mc Mn) (h1 : 1 ≤ b) (hcn : ∀ k, k + 6 < 6 * b → Cn k = Xn k) (hcell : ∀ k, k < 8 * b → Fit (My k) ∧ (Mg k = 0 ∧ Cc k = My k ∨ Mg k = 1 ∧ Cc k = LOSTv)) : CP b Xn Cc Cn My Mg Mn := by
  obtain ⟨hb, -, -, -, hn, hok⟩ := hw
  exact ⟨h1, hb, fun k hk => ⟨hcn k hk, hn k hk⟩, hok, hcell⟩
theorem ckZ0 : ckZ 0 = some 0 := rfl
theorem ckZ1 : ckZ 1 = some 1 := rfl
theorem G_right (p0 : Int32) {Xb Xc Xn Cb Cc Cn Mb Mc Mn Mh My Mg} (hand : Nat → Int64) (h : RC Xb Xc Xn Cb Cc Cn Mb Mc Mn Mh My Mg) : ∃ (r : Int32) (q1 : Nat → Int64), fX8_right p0 Cb Cc Cn = some r ∧ fX9_right p0 Mb Mh Mn My Mg hand = some (r, q1) := by
  obtain ⟨b, hw, hcc⟩ := id h
  obtain ⟨hb, rfl, rfl, hc, hn, hok⟩ := id hw
  unfold fX8_right fX9_right
  rcases hcc with ⟨rfl, rfl⟩ | ⟨rfl, h1, rfl, hcn, hcell⟩
  · rw [hasCopy_0, if_pos rfl]
    exact ⟨_, _, rfl, rfl⟩
  · rw [hasCopy_1 (by omega) h1]
    simp only [Option.bind_some, i10]
    unfold fX9_isStep
    rcases step_cases p0 hb with ⟨i, hi, rfl, c1, c2, h9⟩ | ⟨c, h9⟩
    · rw [h9, if_neg c1, steps_n (by omega)]
      simp only [Option.bind_some]
      rw [if_pos c2, ckZ1]
      simp only [Option.bind_some, i10]
      obtain ⟨w, hand', g1, g2⟩ := rightOf_both (CP_of hw h1 hcn hcell) hi hand
      have hd := isDark_n (f := Cc) (i := i) (by omega)
      rw [g1]
      simp only [bn2, Option.bind_some]
      rcases g2 with ⟨rfl, k1, k2⟩ | ⟨rfl, k1, k2⟩ | ⟨rfl, k1, k2⟩
      · rw [hd.1 k1]
        exact ⟨2, hand', rfl, rfl⟩
      · rw [hd.2 k1, k2]
        exact ⟨1, hand', rfl, rfl⟩
      · rw [hd.2 k1, k2]
        exact ⟨0, hand', rfl, rfl⟩
    · rw [h9]
      simp only [Option.bind_some, ckZ0]
      refine ⟨-1, hand, ?_, rfl⟩
      rcases c with c | ⟨c1, c2⟩
      · rw [if_pos c]
      · rw [if_neg c1, steps_n (by omega)]
        simp only [Option.bind_some]
        rw [if_neg c2]
theorem nI_b1 {b : Nat} (h : 1 ≤ b) : nI b - (1 : Int32) = nI (b - 1) := nI_sub (b := 1) h
theorem blame_both {b : Nat} {N : Nat → Int32} {Cc : Nat → Int64} {Cn : Nat → Int32} {My : Nat → Int64} {Mg Mn : Nat → Int32} (h : CP b N Cc Cn My Mg Mn) (hand : Nat → Int64) : ∃ (r : Int32) (hand' : Nat → Int64), fX1_blamed (nI b) Cc Cn = some r ∧ fX9_blamed (nI b) Mn My Mg hand = some (r, hand') ∧ (r = -6 ∨ ∃ i, i + 1 < b ∧ r = nI (i + 1) ∧ ¬ Dk Cc i ∧ fX1_isRight (nI i) (nI b) Cc Cn = some 0) := by
  obtain ⟨b1, b49, hn, hok, hcell⟩ := id h
  obtain ⟨e, e', h1, h2, h3⟩ := itr_rel (f := fX1_blamed_L2 (nI b) Cc Cn) (g := fX9_blamed_L2 (nI b) Mn My Mg)
    (fun m s t => ∃ i, i + 1 ≤ b ∧ m = b - 1 - i ∧ s = nI i ∧ t.1 = nI i)
    (fun e e' => (∃ hd, e = .inl () ∧ e' = .inl hd) ∨ ∃ i hd, i + 1 < b ∧ e = .inr (nI (i + 1)) ∧ e' = .inr (nI (i + 1), hd) ∧ ¬ Dk Cc i ∧ fX1_isRight (nI i) (nI b) Cc Cn = some 0)
    (fun m s t hI => by
      obtain ⟨x, hd⟩ := t
      obtain ⟨i, hi, rfl, rfl, hx⟩ := hI
      dsimp only at hx
      subst hx
      show (∃ e e', fX1_blamed_L2b (nI b) Cc Cn (nI i) = some (.inr e) ∧ fX9_blamed_L2b (nI b) Mn My Mg (nI i) hd = some (.inr e') ∧ _) ∨ ∃ j s' t', j < b - 1 - i ∧ fX1_blamed_L2b (nI b) Cc Cn (nI i) = some (.inl s') ∧ fX9_blamed_L2b (nI b) Mn My Mg (nI i) hd = some (.inl t') ∧ _
      unfold fX1_blamed_L2b fX9_blamed_L2b
      rw [steps_n (by omega), nI_b1 b1]
      simp only [Option.bind_some]
      rcases Nat.lt_or_ge i (b - 1) with hlt | hge
      · rw [if_pos (nI_lt hlt (by omega)), if_pos (nI_lt hlt (by omega))]
        obtain ⟨w, hand', g1, g2⟩ := rightOf_both h (i := i) (by omega) hd
        have hdk := isDark_n (f := Cc) (i := i) (by omega)
        rw [g1]
        simp only [bn2, Option.bind_some, nI_inc]
        rcases g2 with ⟨rfl, k1, k2⟩ | ⟨rfl, k1, k2⟩ | ⟨rfl, k1, k2⟩
        · right
          rw [hdk.1 k1]
          exact ⟨b - 1 - (i + 1), _, _, by omega, rfl, rfl, i + 1, by omega, rfl, rfl, rfl⟩
        · right
          rw [hdk.2 k1, k2]
          exact ⟨b - 1 - (i + 1), _, _, by omega, rfl, rfl, i + 1, by omega, rfl, rfl, rfl⟩
        · left
          rw [hdk.2 k1, k2]
          exact ⟨_, _, rfl, rfl, Or.inr ⟨i, _, by omega, rfl, rfl, k1, k2⟩⟩
      · left
        rw [if_neg (nI_nlt hge (by omega)), if_neg (nI_nlt hge (by omega))]
        exact ⟨_, _, rfl, rfl, Or.inl ⟨hd, rfl, rfl⟩⟩) KF (b - 1) (0 : Int32) ((0 : Int32), hand) (KF_lt (by omega)) ⟨0, by omega, by omega, rfl, rfl⟩
  unfold fX1_blamed fX9_blamed
  rw [h1, h2]
  rcases h3 with ⟨hd, rfl, rfl⟩ | ⟨i, hd, hi, rfl, rfl, k1, k2⟩
  · exact ⟨-6, hd, rfl, rfl, Or.inl rfl⟩
  · exact ⟨nI (i + 1), hd, rfl, rfl, Or.inr ⟨i, hi, rfl, k1, k2⟩⟩
theorem G_blame {Xb Xc Xn Cb Cc Cn Mb Mc Mn Mh My Mg} (hand : Nat → Int64) (h : RC Xb Xc Xn Cb Cc Cn Mb Mc Mn Mh My Mg) : ∃ (r : Int32) (q1 : Nat → Int64), fX8_blame Cb Cc Cn = some r ∧ fX9_blame Mb Mh Mn My Mg hand = some (r, q1) := by
  obtain ⟨b, hw, hcc⟩ := id h
  obtain ⟨hb, rfl, rfl, hc, hn, hok⟩ := id hw
  unfold fX8_blame fX9_blame
  rcases hcc with ⟨rfl, rfl⟩ | ⟨rfl, h1, rfl, hcn, hcell⟩
  · rw [hasCopy_0, if_pos rfl]
    exact ⟨_, _, rfl, rfl⟩
  · rw [hasCopy_1 (by omega) h1]
    simp only [Option.bind_some, i10]
    obtain ⟨r, hand', g1, g2, -⟩ := blame_both (CP_of hw h1 hcn hcell) hand
    rw [g1, g2]
    exact ⟨r, hand', rfl, rfl⟩
/-- all gaps, to the board b -/
def ag (f : Nat → Int64) : Nat → Nat
  | 0 => 0
  | n + 1 => ag f n + cg f n 8
theorem ag_le (f : Nat → Int64) (n : Nat) : ag f n ≤ 8 * n := by
  induction n with
  | zero => exact Nat.le_refl _
  | succ n ih => have := cg_le f n 8; simp only [ag]; omega
theorem allGaps_n {f : Nat → Int64} {b : Nat} (hb : b ≤ 49) : fX1_allGaps (nI b) f = some (nI (ag f b)) := by
  unfold fX1_allGaps
  rw [show itr (fX1_allGaps_L4 (nI b) f) KF ((0 : Int32), (0 : Int32)) = some (nI (ag f b)) from
    itr_to (fun j => (nI (ag f j), nI j)) b _ (fun j hj => by
      show fX1_allGaps_L4b (nI b) f (nI (ag f j)) (nI j) = _
      unfold fX1_allGaps_L4b fX3_size
      simp only [Option.bind_some]
      rw [if_pos (nI_lt hj (by omega)), gapsIn_n (by omega)]
      simp only [Option.bind_some, nI_inc, nI_add, ag]) (by
      show fX1_allGaps_L4b (nI b) f (nI (ag f b)) (nI b) = _
      unfold fX1_allGaps_L4b fX3_size
      simp only [Option.bind_some]
      rw [if_neg (nI_nlt (Nat.le_refl _) (by omega))]) (KF_lt (by omega))]
  rfl
theorem gaps9_row {f : Nat → Int64} {g : Nat → Int32} {i : Nat} (hi : i < 49) (hfg : ∀ r, r < 8 → (f (8 * i + r) = LOSTv ↔ ¬ g (8 * i + r) = 0)) (n : Nat) : itr (fX9_told_L121 (nI i) g) KF (nI n, (0 : Int32)) = some (nI (n + cg f i 8)) :=
  itr_to (fun j => (nI (n + cg f i j), nI j)) 8 _ (fun j hj => by
    show fX9_told_L121b (nI i) g (nI (n + cg f i j)) (nI j) = _
    unfold fX9_told_L121b
    rw [if_pos (lt8 hj), ix8', rdI_n (by omega) (by decide)]
    simp only [Option.bind_some, nI_inc, cg]
    by_cases c : g (8 * i + j) = 0
    · rw [if_pos c, if_neg (fun q => (hfg j hj).mp q c), show nI (n + cg f i j) + (0 : Int32) = nI (n + cg f i j) from Int32.add_zero _]; rfl
    · rw [if_neg c, if_pos ((hfg j hj).mpr c)]; rfl) (by
    show fX9_told_L121b (nI i) g (nI (n + cg f i 8)) (nI 8) = _
    unfold fX9_told_L121b
    rw [if_neg (by decide)]) (KF_lt (by decide))
theorem gaps9_all {f : Nat → Int64} {g : Nat → Int32} {b : Nat} (hb : b ≤ 49) (hfg : ∀ k, k < 8 * b → (f k = LOSTv ↔ ¬ g k = 0)) : itr (fX9_told_L103 (nI b) 1 g) KF ((0 : Int32), (0 : Int32)) = some (nI (ag f b)) :=
  itr_to (fun j => (nI (ag f j), nI j)) b _ (fun j hj => by
    show fX9_told_L103b (nI b) 1 g (nI (ag f j)) (nI j) = _
    unfold fX9_told_L103b
    rw [if_pos (nI_lt hj (by omega)), i10, gaps9_row (f := f) (by omega) (fun r hr => hfg _ (by omega))]
    simp only [Option.bind_some, nI_inc, ag]) (by
    show fX9_told_L103b (nI b) 1 g (nI (ag f b)) (nI b) = _
    unfold fX9_told_L103b
    rw [if_neg (nI_nlt (Nat.le_refl _) (by omega))]) (KF_lt (by omega))
/-- all sticks on the board -/
def asd (f : Nat → Int64) : Nat → Nat
  | 0 => 0
  | n + 1 => asd f n + sd (f n) 12
theorem sticks_all {Xr Mr : Nat → Int64} (h : RA Xr Mr) : fX7_allSticks Xr = some (nI (asd Xr 8)) ∧ itr (fX9_told_L170 Mr) KF ((0 : Int32), (0 : Int32)) = some (nI (asd Xr 8)) := by
  constructor
  · unfold fX7_allSticks
    rw [show itr (fX7_allSticks_L4 Xr) KF ((0 : Int32), (0 : Int32)) = some (nI (asd Xr 8)) from
      itr_to (fun j => (nI (asd Xr j), nI j)) 8 _ (fun j hj => by
        show fX7_allSticks_L4b Xr (nI (asd Xr j)) (nI j) = _
        unfold fX7_allSticks_L4b
        rw [if_pos (lt8 hj), rdJ_n hj (by decide)]
        simp only [Option.bind_some]
        rw [allSticks8 (h j hj).2]
        simp only [Option.bind_some, nI_inc, nI_add, asd]) (by
        show fX7_allSticks_L4b Xr (nI (asd Xr 8)) (nI 8) = _
        unfold fX7_allSticks_L4b
        rw [if_neg (by decide)]) (KF_lt (by decide))]
    rfl
  · exact itr_to (fun j => (nI (asd Xr j), nI j)) 8 _ (fun j hj => by
        show fX9_told_L170b Mr (nI (asd Xr j)) (nI j) = _
        unfold fX9_told_L170b
        rw [if_pos (lt8 hj), rdJ_n hj (by decide), (h j hj).1]
        simp only [Option.bind_some]
        rw [allSticks9 (h j hj).2]
        simp only [Option.bind_some, nI_inc, nI_add, asd]) (by
        show fX9_told_L170b Mr (nI (asd Xr 8)) (nI 8) = _
        unfold fX9_told_L170b
        rw [if_neg (by decide)]) (KF_lt (by decide))
theorem G_told (p0 : Int32) {Xr Mr : Nat → Int64} {u g n un m col z mc : Int32} {Xb Xc Xn Cb Cc Cn Mb Mc Mn Mh My Mg} (hA : RA Xr Mr) (hu : g = u) (hn' : un = n) (hm' : col = m) (hz : mc = z) (h : RC Xb Xc Xn Cb Cc Cn Mb Mc Mn Mh My Mg) : ∃ r : Int32, fX8_told p0 Xr Xb u Cb Cc n m z = some r ∧ fX9_told p0 g Mb Mh un col mc Mr Mg = some r := by
  obtain ⟨b, hw, hcc⟩ := id h
  obtain ⟨hb, rfl, rfl, hc, hn, hok⟩ := id hw
  subst hu
  subst hn'
  subst hm'
  subst hz
  obtain ⟨s1, s2⟩ := sticks_all hA
  have hst : (if nI b = (0 : Int32) then some (0 : Int32) else some (nI b - (1 : Int32))) = some (nI (b - 1)) := by
    have := steps_n (b := b) (by omega)
    unfold fX3_steps at this
    exact this
  have h2 : ∃ v, fX1_hasCopy Cb = some v ∧ ((v = 0 ∧ Mh = 0) ∨ (v = 1 ∧ Mh = 1)) := by
    rcases hcc with ⟨rfl, rfl⟩ | ⟨rfl, h1, rfl, -⟩
    · exact ⟨0, hasCopy_0, Or.inl ⟨rfl, rfl⟩⟩
    · exact ⟨1, hasCopy_1 (by omega) h1, Or.inr ⟨rfl, rfl⟩⟩
  have h6 : ∃ v, fX1_allGaps Cb Cc = some v ∧ itr (fX9_told_L103 (nI b) Mh Mg) KF ((0 : Int32), (0 : Int32)) = some v := by
    rcases hcc with ⟨rfl, rfl⟩ | ⟨rfl, h1, rfl, hcn, hcell⟩
    · refine ⟨0, allGaps_n (b := 0) (by omega), ?_⟩
      exact itr_to (fun j => ((0 : Int32), (0 : Int32))) 0 _ (fun j hj => absurd hj (by omega)) (by
        show fX9_told_L103b (nI b) 0 Mg 0 0 = _
        unfold fX9_told_L103b
        by_cases q : (0 : Int32) < nI b
        · rw [if_pos q, i00]
        · rw [if_neg q]) (KF_lt (by decide))
    · refine ⟨_, allGaps_n hb, gaps9_all hb (fun k hk => ?_)⟩
      obtain ⟨g1, g2⟩ := hcell k hk
      rcases g2 with ⟨g2, g3⟩ | ⟨g2, g3⟩
      · rw [g3, g2]; exact ⟨fun q => absurd q (lost_not_fit g1), fun q => absurd rfl q⟩
      · rw [g3, g2]; exact ⟨fun _ => by decide, fun _ => rfl⟩
  obtain ⟨v2, k1, k2⟩ := h2
  obtain ⟨v6, k3, k4⟩ := h6
  unfold fX8_told fX9_told
  rw [steps_n (by omega), hst, k1, k3, k4, s1, s2]
  simp only [Option.bind_some, fX6_size, fX2_size]
  by_cases c0 : p0 = 0
  · rw [if_pos c0, if_pos c0]; exact ⟨_, rfl, rfl⟩
  · rw [if_neg c0, if_neg c0]
    by_cases c1 : p0 = 1
    · rw [if_pos c1, if_pos c1]; exact ⟨_, rfl, rfl⟩
    · rw [if_neg c1, if_neg c1]
      by_cases c2 : p0 = 2
      · rw [if_pos c2, if_pos c2]
        rcases k2 with ⟨rfl, rfl⟩ | ⟨rfl, rfl⟩
        · exact ⟨0, rfl, rfl⟩
        · exact ⟨1, rfl, rfl⟩
      · rw [if_neg c2, if_neg c2]
        by_cases c3 : p0 = 3
        · rw [if_pos c3]; exact ⟨_, rfl, rfl⟩
        · rw [if_neg c3]
          by_cases c4 : p0 = 4
          · rw [if_pos c4]; exact ⟨_, rfl, rfl⟩
          · rw [if_neg c4]
            by_cases c5 : p0 = 5
            · rw [if_pos c5]; exact ⟨_, rfl, rfl⟩
            · rw [if_neg c5]
              by_cases c6 : p0 = 6
              · rw [if_pos c6]; exact ⟨_, rfl, rfl⟩
              · rw [if_neg c6]
                by_cases c7 : p0 = 7
                · rw [if_pos c7]; exact ⟨_, rfl, rfl⟩
                · rw [if_neg c7]; exact ⟨_, rfl, rfl⟩
