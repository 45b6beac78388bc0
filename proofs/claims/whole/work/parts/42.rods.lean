/-! ===== rods: about, sticks, group, strip, wipe ===== -/
def dn (n : Nat) : Int32 := nI n + (-1 : Int32)
theorem dn_s (n : Nat) : dn (n + 1) = nI n := by
  unfold dn
  rw [show nI (n + 1) = nI n + 1 from nI_succ n, Int32.add_assoc]
  exact Int32.add_zero _
theorem dn_0 : dn 0 < (0 : Int32) := by decide
theorem dn_12 : (11 : Int32) = dn 12 := by decide
theorem nI_lit {k n : Nat} (h : k < n) (hn : n < 2 ^ 31) : nI k < Int32.ofNat n := nI_lt h hn
theorem nI_inc (n : Nat) : nI n + (1 : Int32) = nI (n + 1) := nI_1 n
theorem nI_z {d : Nat} (h : d < 2 ^ 31) : (nI d = (0 : Int32)) ↔ d = 0 := (nI_eq (b := 0) h (by decide))
theorem nI_p {d : Nat} (h : d < 2 ^ 31) : ((0 : Int32) < nI d) ↔ 0 < d := (nI_ltI (a := 0) (by decide) h)
def sd (v : Int64) : Nat → Nat
  | 0 => 0
  | n + 1 => sd v n + dgt v n
theorem sd_le (v : Int64) (n : Nat) : sd v n ≤ 9 * n := by
  induction n with
  | zero => exact Nat.le_refl _
  | succ n ih => have := dgt_lt v n; simp only [sd]; omega
theorem allSticks8 {v : Int64} (h : Fit v) : fX5_allSticks v = some (nI (sd v 12)) := by
  unfold fX5_allSticks
  rw [show itr (fX5_allSticks_L4 v) KF ((0 : Int32), (0 : Int32)) = some (nI (sd v 12)) from
    itr_to (fun i => (nI (sd v i), nI i)) 12 _ (fun i hi => by
      show fX5_allSticks_L4b v (nI (sd v i)) (nI i) = _
      unfold fX5_allSticks_L4b
      rw [if_pos (lt12 hi), digit8 h hi]
      simp only [Option.bind_some, nI_add, nI_inc, sd]) (by
      show fX5_allSticks_L4b v (nI (sd v 12)) (nI 12) = _
      unfold fX5_allSticks_L4b
      rw [if_neg (by decide)]) (KF_lt (by decide))]
  rfl
theorem allSticks9 {v : Int64} (h : Fit v) : fX9_allSticks v = some (nI (sd v 12)) := by
  unfold fX9_allSticks
  rw [show itr (fX9_allSticks_L4 v) KF ((0 : Int32), (0 : Int32)) = some (nI (sd v 12)) from
    itr_to (fun i => (nI (sd v i), nI i)) 12 _ (fun i hi => by
      show fX9_allSticks_L4b v (nI (sd v i)) (nI i) = _
      unfold fX9_allSticks_L4b
      rw [if_pos (lt12 hi), digit9 h hi]
      simp only [Option.bind_some, nI_add, nI_inc, sd]) (by
      show fX9_allSticks_L4b v (nI (sd v 12)) (nI 12) = _
      unfold fX9_allSticks_L4b
      rw [if_neg (by decide)]) (KF_lt (by decide))]
  rfl
/-- the highest place below n that is not empty -/
def hp (v : Int64) : Nat → Int32
  | 0 => -6
  | n + 1 => if dgt v n = 0 then hp v n else nI n
theorem hp_cases (v : Int64) (n : Nat) : hp v n = -6 ∨ ∃ k, k < n ∧ hp v n = nI k := by
  induction n with
  | zero => exact Or.inl rfl
  | succ n ih =>
    simp only [hp]
    by_cases h : dgt v n = 0
    · rw [if_pos h]
      rcases ih with ih | ⟨k, h1, h2⟩
      · exact Or.inl ih
      · exact Or.inr ⟨k, by omega, h2⟩
    · rw [if_neg h]; exact Or.inr ⟨n, by omega, rfl⟩
theorem highest8 {v : Int64} (h : Fit v) : fX5_highestPlace v = some (hp v 12) := by
  unfold fX5_highestPlace
  obtain ⟨e, h1, h2⟩ := itr_ex (f := fX5_highestPlace_L3 v) (fun i s => i ≤ 12 ∧ s = dn i ∧ hp v 12 = hp v i) (fun e => Sum.elim (fun (_ : Unit) => some (-6 : Int32)) (fun rr => some rr) e = some (hp v 12)) (fun i s hI => by
    obtain ⟨h12, rfl, he⟩ := hI
    show (∃ e, fX5_highestPlace_L3b v (dn i) = some (.inr e) ∧ _) ∨ ∃ j s', j < i ∧ fX5_highestPlace_L3b v (dn i) = some (.inl s') ∧ _
    unfold fX5_highestPlace_L3b
    cases i with
    | zero => left; rw [if_pos dn_0]; exact ⟨_, rfl, by rw [he]; rfl⟩
    | succ n =>
      rw [dn_s, if_neg (nI_not_neg (by omega)), digit8 h (by omega)]
      simp only [Option.bind_some]
      have hlt := dgt_lt v n
      by_cases hd : dgt v n = 0
      · right
        rw [if_pos ((nI_z (by omega)).mpr hd)]
        exact ⟨n, _, by omega, rfl, by omega, rfl, by rw [he]; simp only [hp, if_pos hd]⟩
      · left
        rw [if_neg (fun q => hd ((nI_z (by omega)).mp q))]
        exact ⟨_, rfl, by rw [he]; simp only [hp, if_neg hd]; rfl⟩) KF 12 (11 : Int32) (KF_lt (by decide)) ⟨Nat.le_refl _, dn_12, rfl⟩
  rw [h1]
  exact h2
theorem highest9 {v : Int64} (h : Fit v) : fX9_highest v = some (hp v 12) := by
  unfold fX9_highest
  rw [show itr (fX9_highest_L5 v) KF ((-6 : Int32), (0 : Int32)) = some (hp v 12) from
    itr_to (fun i => (hp v i, nI i)) 12 _ (fun i hi => by
      show fX9_highest_L5b v (hp v i) (nI i) = _
      unfold fX9_highest_L5b
      have hlt := dgt_lt v i
      rw [if_pos (lt12 hi), digit9 h hi]
      simp only [Option.bind_some, nI_inc, hp]
      by_cases hd : dgt v i = 0
      · rw [if_neg (by rw [nI_p (by omega)]; omega), if_pos hd]
      · rw [if_pos (by rw [nI_p (by omega)]; omega), if_neg hd]) (by
      show fX9_highest_L5b v (hp v 12) (nI 12) = _
      unfold fX9_highest_L5b
      rw [if_neg (by decide)]) (KF_lt (by decide))]
  rfl
/-- empty places below n -/
def ec (v : Int64) : Nat → Nat
  | 0 => 0
  | n + 1 => ec v n + (if dgt v n = 0 then 1 else 0)
theorem empty_any {v : Int64} (h : Fit v) : ∃ r, fX5_emptyPlaces v = some r ∧ ∀ (f : Nat → Int64) (k : Nat), k < 8 → f k = v → itr (fX9_about_L75 (nI k) f) KF ((0 : Int32), (0 : Int32)) = some r := by
  unfold fX5_emptyPlaces
  rw [highest8 h]
  simp only [Option.bind_some]
  rcases hp_cases v 12 with hc | ⟨n, hn, hc⟩
  · rw [hc]
    refine ⟨0, ?_, fun f k hk hf => ?_⟩
    · rw [show itr (fX5_emptyPlaces_L10 v (-6)) KF ((0 : Int32), (0 : Int32)) = some 0 from
        itr_to (fun i => ((0 : Int32), (0 : Int32))) 0 _ (fun i hi => absurd hi (by omega)) (by
          show fX5_emptyPlaces_L10b v (-6) 0 0 = _
          unfold fX5_emptyPlaces_L10b
          rw [if_neg (by decide)]) (KF_lt (by decide))]
      rfl
    · exact itr_to (fun i => ((0 : Int32), (0 : Int32))) 0 _ (fun i hi => absurd hi (by omega)) (by
          show fX9_about_L75b (nI k) f 0 0 = _
          unfold fX9_about_L75b
          rw [rdJ_n hk (by decide), hf]
          simp only [Option.bind_some]
          rw [highest9 h]
          simp only [Option.bind_some]
          rw [hc, if_neg (by decide)]) (KF_lt (by decide))
  · rw [hc]
    refine ⟨nI (ec v n), ?_, fun f k hk hf => ?_⟩
    · rw [show itr (fX5_emptyPlaces_L10 v (nI n)) KF ((0 : Int32), (0 : Int32)) = some (nI (ec v n)) from
        itr_to (fun i => (nI (ec v i), nI i)) n _ (fun i hi => by
          show fX5_emptyPlaces_L10b v (nI n) (nI (ec v i)) (nI i) = _
          unfold fX5_emptyPlaces_L10b
          have hlt := dgt_lt v i
          rw [if_pos (nI_lt hi (by omega)), digit8 h (by omega)]
          simp only [Option.bind_some, nI_inc, ec]
          by_cases hd : dgt v i = 0
          · rw [if_pos ((nI_z (by omega)).mpr hd), if_pos hd]
          · rw [if_neg (fun q => hd ((nI_z (by omega)).mp q)), if_neg hd]; rfl) (by
          show fX5_emptyPlaces_L10b v (nI n) (nI (ec v n)) (nI n) = _
          unfold fX5_emptyPlaces_L10b
          rw [if_neg (nI_nlt (Nat.le_refl _) (by omega))]) (KF_lt (by omega))]
      rfl
    · exact itr_to (fun i => (nI (ec v i), nI i)) n _ (fun i hi => by
          show fX9_about_L75b (nI k) f (nI (ec v i)) (nI i) = _
          unfold fX9_about_L75b
          have hlt := dgt_lt v i
          rw [rdJ_n hk (by decide), hf]
          simp only [Option.bind_some]
          rw [highest9 h]
          simp only [Option.bind_some]
          rw [hc, if_pos (nI_lt hi (by omega)), digit9 h (by omega)]
          simp only [Option.bind_some, nI_inc, ec]
          by_cases hd : dgt v i = 0
          · rw [if_pos ((nI_z (by omega)).mpr hd), if_pos hd]
          · rw [if_neg (fun q => hd ((nI_z (by omega)).mp q)), if_neg hd]; rw [show nI (ec v i) + (0 : Int32) = nI (ec v i) from Int32.add_zero _]; rfl) (by
          show fX9_about_L75b (nI k) f (nI (ec v n)) (nI n) = _
          unfold fX9_about_L75b
          rw [rdJ_n hk (by decide), hf]
          simp only [Option.bind_some]
          rw [highest9 h]
          simp only [Option.bind_some]
          rw [hc, if_neg (nI_nlt (Nat.le_refl _) (by omega))]) (KF_lt (by omega))
theorem G_about (p0 p1 : Int32) {Xr Mr : Nat → Int64} (h : RA Xr Mr) : ∃ r : Int32, fX8_about p0 p1 Xr = some r ∧ fX9_about p0 p1 Mr = some r := by
  unfold fX8_about fX9_about
  rcases row_cases p0 with ⟨k, hk, rfl, h8, h9⟩ | ⟨h8, h9⟩
  · rw [h8, h9]
    simp only [Option.bind_some]
    rw [if_neg (by decide), if_neg (by decide), held_n hk, rdJ_n hk (by decide), (h k hk).1]
    simp only [Option.bind_some]
    have hf := (h k hk).2
    obtain ⟨c, hc⟩ := colour_some (Xr k)
    obtain ⟨e, he, he2⟩ := empty_any hf
    rw [he2 Mr k hk (h k hk).1, he, highest8 hf, highest9 hf, allSticks8 hf, allSticks9 hf, colour89, hc]
    simp only [Option.bind_some]
    by_cases c0 : p1 = 0
    · exact ⟨c, by rw [if_pos c0], by rw [if_pos c0]⟩
    · by_cases c1 : p1 = 1
      · exact ⟨_, by rw [if_neg c0, if_pos c1], by rw [if_neg c0, if_pos c1]⟩
      · by_cases c2 : p1 = 2
        · exact ⟨_, by rw [if_neg c0, if_neg c1, if_pos c2], by rw [if_neg c0, if_neg c1, if_pos c2]⟩
        · by_cases c3 : p1 = 3
          · exact ⟨e, by rw [if_neg c0, if_neg c1, if_neg c2, if_pos c3], by rw [if_neg c0, if_neg c1, if_neg c2, if_pos c3]⟩
          · exact ⟨-2, by rw [if_neg c0, if_neg c1, if_neg c2, if_neg c3], by rw [if_neg c0, if_neg c1, if_neg c2, if_neg c3]⟩
  · rw [h8, h9]
    exact ⟨_, rfl, rfl⟩
theorem rng (p : Int32) (n : Nat) (hn : n < 2 ^ 31) : (∃ k, k < n ∧ p = nI k) ∨ p.toInt < 0 ∨ (n : Int) ≤ p.toInt := by
  by_cases h1 : p.toInt < 0
  · exact Or.inr (Or.inl h1)
  · by_cases h2 : (n : Int) ≤ p.toInt
    · exact Or.inr (Or.inr h2)
    · exact Or.inl ⟨p.toInt.toNat, by omega, nI_of_toInt (by omega)⟩
theorem in9_y {a b c : Int64} (h1 : b.toInt ≤ a.toInt) (h2 : a.toInt ≤ c.toInt) : fX9_in a b c = some 1 := by rw [in9, if_pos ⟨h1, h2⟩]
theorem in9_no {a b c : Int64} (h : ¬ (b.toInt ≤ a.toInt ∧ a.toInt ≤ c.toInt)) : fX9_in a b c = some 0 := by rw [in9, if_neg h]
theorem nI_64 {k : Nat} (h : k < 2 ^ 31) : (nI k).toInt64.toInt = (k : Int) := by rw [t32_to64, nI_toInt h]
theorem way_ok : ∀ p, p < 12 → nI p &&& (1 : Int32) = nI (p % 2) ∧ nI p % (2 : Int32) = nI (p % 2) := by decide +kernel
theorem G_sticks (p0 p1 : Int32) {Xr Mr : Nat → Int64} (h : RA Xr Mr) : ∃ r : Int32, fX8_sticks p0 p1 Xr = some r ∧ fX9_sticks p0 p1 Mr = some r := by
  unfold fX8_sticks fX9_sticks
  rcases row_cases p0 with ⟨k, hk, rfl, h8, h9⟩ | ⟨h8, h9⟩
  · rw [h8, h9]
    simp only [Option.bind_some, i10]
    have hf := (h k hk).2
    rcases rng p1 12 (by decide) with ⟨p, hp, rfl⟩ | q
    · rw [in9_y (by rw [nI_64 (by omega)]; exact Int.natCast_nonneg _) (by rw [nI_64 (by omega)]; show (p : Int) ≤ 11; omega)]
      simp only [Option.bind_some, i10]
      rw [if_neg (nI_not_neg (by omega)), if_pos (lt12 hp), held_n hk, rdJ_n hk (by decide), (h k hk).1]
      simp only [Option.bind_some]
      rw [digit8 hf hp, digit9 hf hp]
      simp only [Option.bind_some, fX5_way, (way_ok p hp).1, (way_ok p hp).2]
      by_cases hd : nI (dgt (Xr k) p) = 0
      · exact ⟨0, by rw [if_pos hd], by rw [if_pos hd]⟩
      · exact ⟨_, by rw [if_neg hd], by rw [if_neg hd]⟩
    · rw [in9_no (by rw [t32_to64]; show ¬ (0 ≤ p1.toInt ∧ p1.toInt ≤ 11); omega)]
      refine ⟨-1, ?_, rfl⟩
      by_cases q1 : p1 < 0
      · rw [if_pos q1]
      · rw [if_neg q1, if_neg]
        rw [Int32.lt_iff_toInt_lt] at q1 ⊢
        show ¬ p1.toInt < 12
        have : ¬ p1.toInt < 0 := q1
        omega
  · rw [h8, h9]
    exact ⟨_, rfl, rfl⟩
theorem append_n {u : Nat} (p0 p1 : Int32) (s w : Nat → Int32) (h : u < 12) : fX6_append p0 p1 (nI u) s w = some (nI (u + 1), upd s u p0, upd w u p1) := by
  unfold fX6_append
  rw [if_neg (nI_not_neg (by omega)), if_pos (lt12 h), if_pos (lt12 h), wrI_n _ h (by decide), wrI_n _ h (by decide)]
  simp only [Option.bind_some, nI_inc]
theorem RB_push {u s w g st gw} (h : RB u s w g st gw) {c : Nat} (hc : c < 12) (hu : u = nI c) {a d : Nat} (ha : 1 ≤ a ∧ a ≤ 9) (hd : d < 2) : RB (nI (c + 1)) (upd s c (nI a)) (upd w c (nI d)) (nI (c + 1)) (upd st c (nI a)) (upd gw c (nI d)) := by
  obtain ⟨g', hg, h1, h2, h3⟩ := h
  have e : g' = c := (nI_eq (by omega) (by omega)).mp (h1.symm.trans hu)
  subst e
  refine ⟨g' + 1, by omega, rfl, rfl, fun i hi => ?_⟩
  by_cases e : i = g'
  · subst e; rw [upd_at, upd_at, upd_at, upd_at]; exact ⟨rfl, rfl, ⟨a, ha.1, ha.2, rfl⟩, ⟨d, hd, rfl⟩⟩
  · rw [upd_ne e, upd_ne e, upd_ne e, upd_ne e]; exact h3 i (by omega)
theorem G_group (p0 p1 : Int32) {u s w g st gw} (h : RB u s w g st gw) : ∃ (r o1 : Int32) (o2 o3 : Nat → Int32) (q1 : Int32) (q2 q3 : Nat → Int32), fX8_group p0 p1 u s w = some (r, o1, o2, o3) ∧ fX9_group p0 p1 g st gw = some (r, q1, q2, q3) ∧ RB o1 o2 o3 q1 q2 q3 := by
  unfold fX8_group fX9_group
  obtain ⟨c, hc, rfl, rfl, h3⟩ := id h
  have bad : ¬ (1 ≤ p0.toInt ∧ p0.toInt ≤ 9 ∧ 0 ≤ p1.toInt ∧ p1.toInt ≤ 1) → (if p0 < (1 : Int32) then some ((-2 : Int32), nI c, s, w) else if (9 : Int32) < p0 then some ((-2 : Int32), nI c, s, w) else if p1 < (0 : Int32) then some ((-2 : Int32), nI c, s, w) else if (1 : Int32) < p1 then some ((-2 : Int32), nI c, s, w) else none) = some ((-2 : Int32), nI c, s, w) := by
    intro hb
    simp only [Int32.lt_iff_toInt_lt]
    have e1 : (1 : Int32).toInt = 1 := rfl
    have e9 : (9 : Int32).toInt = 9 := rfl
    have e0 : (0 : Int32).toInt = 0 := rfl
    rw [e1, e9, e0]
    by_cases a1 : p0.toInt < 1
    · rw [if_pos a1]
    · rw [if_neg a1]
      by_cases a2 : 9 < p0.toInt
      · rw [if_pos a2]
      · rw [if_neg a2]
        by_cases a3 : p1.toInt < 0
        · rw [if_pos a3]
        · rw [if_neg a3, if_pos (by omega)]
  by_cases hb : 1 ≤ p0.toInt ∧ p0.toInt ≤ 9 ∧ 0 ≤ p1.toInt ∧ p1.toInt ≤ 1
  · obtain ⟨a, ha, rfl⟩ : ∃ a : Nat, (1 ≤ a ∧ a ≤ 9) ∧ p0 = nI a := ⟨p0.toInt.toNat, by omega, nI_of_toInt (by omega)⟩
    obtain ⟨d, hd, rfl⟩ : ∃ d : Nat, d < 2 ∧ p1 = nI d := ⟨p1.toInt.toNat, by omega, nI_of_toInt (by omega)⟩
    rw [in9_y (by rw [nI_64 (by omega)]; show (1 : Int) ≤ a; omega) (by rw [nI_64 (by omega)]; show (a : Int) ≤ 9; omega)]
    simp only [Option.bind_some]
    rw [in9_y (by rw [nI_64 (by omega)]; exact Int.natCast_nonneg _) (by rw [nI_64 (by omega)]; show (d : Int) ≤ 1; omega)]
    simp only [Option.bind_some, fX6_size, i10]
    rw [if_neg (nlt1 ha.1 (by omega)), if_neg (lt9n ha.2), if_neg (nI_not_neg (by omega)), if_neg (lt1n (by omega))]
    by_cases hf : c < 12
    · rw [if_pos (lt12 hf), append_n _ _ _ _ hf, if_neg (ne12 hf), wrI_n _ hf (by decide), wrI_n _ hf (by decide)]
      simp only [bn3, Option.bind_some, nI_inc]
      exact ⟨_, _, _, _, _, _, _, rfl, rfl, RB_push h hf rfl ha hd⟩
    · have : c = 12 := by omega
      subst this
      rw [if_neg (by decide), if_pos (show nI 12 = (12 : Int32) from rfl)]
      exact ⟨_, _, _, _, _, _, _, rfl, rfl, h⟩
  · refine ⟨-2, _, _, _, _, _, _, ?_, ?_, h⟩
    · have := bad hb
      split at this
      · next q => rw [if_pos q]
      · next q =>
        rw [if_neg q]
        split at this
        · next q => rw [if_pos q]
        · next q =>
          rw [if_neg q]
          split at this
          · next q => rw [if_pos q]
          · next q =>
            rw [if_neg q]
            split at this
            · next q => rw [if_pos q]
            · cases this
    · by_cases a1 : 1 ≤ p0.toInt ∧ p0.toInt ≤ 9
      · rw [in9_y (by rw [t32_to64]; exact a1.1) (by rw [t32_to64]; exact a1.2)]
        simp only [Option.bind_some, i10]
        rw [in9_no (by rw [t32_to64]; show ¬ (0 ≤ p1.toInt ∧ p1.toInt ≤ 1); omega)]
        rfl
      · rw [in9_no (by rw [t32_to64]; exact a1)]
        rfl
theorem G_wipe {u s w g st gw} (h : RB u s w g st gw) : ∃ (r o1 q1 : Int32), fX8_wipe u = some (r, o1) ∧ fX9_wipe g = some (r, q1) ∧ RB o1 s w q1 st gw := by
  obtain ⟨c, hc, rfl, rfl, h3⟩ := h
  exact ⟨nI c, 0, 0, rfl, rfl, 0, by omega, rfl, rfl, fun i hi => absurd hi (by omega)⟩
theorem G_strip (p0 : Int32) {Xr Mr : Nat → Int64} {u s w g st gw} (hA : RA Xr Mr) (h : RB u s w g st gw) : ∃ (r o1 : Int32) (o2 o3 : Nat → Int32) (q1 : Int32) (q2 q3 : Nat → Int32), fX8_strip p0 Xr u s w = some (r, o1, o2, o3) ∧ fX9_strip p0 g Mr st gw = some (r, q1, q2, q3) ∧ RB o1 o2 o3 q1 q2 q3 := by
  unfold fX8_strip fX9_strip
  rcases row_cases p0 with ⟨k, hk, rfl, h8, h9⟩ | ⟨h8, h9⟩
  · rw [h8, h9]
    simp only [Option.bind_some]
    rw [if_neg (by decide), if_neg (by decide), held_n hk]
    have hf := (hA k hk).2
    simp only [Option.bind_some, fX6_show, fX6_clear]
    obtain ⟨e, e', h1, h2, h3, h4⟩ := itr_rel (f := fX6_show_L7 (Xr k)) (g := fX9_strip_L17 (nI k) Mr)
      (fun i a b => i ≤ 12 ∧ a.1 = dn i ∧ b.1 = dn i ∧ RB a.2.1 a.2.2.1 a.2.2.2 b.2.1 b.2.2.1 b.2.2.2 ∧ ∃ c, c + i ≤ 12 ∧ a.2.1 = nI c)
      (fun a b => RB a.1 a.2.1 a.2.2 b.1 b.2.1 b.2.2 ∧ b.1 = a.1)
      (fun i a b hI => by
        obtain ⟨x, u, s, w⟩ := a
        obtain ⟨x', g, st, gw⟩ := b
        obtain ⟨h12, hx, hx', hRB, c, hc, hu⟩ := hI
        dsimp only at hx hx' hRB hc hu
        subst hx
        subst hx'
        have hgc : g = nI c := by
          obtain ⟨g', hg', e1, e2, -⟩ := hRB
          rw [e2, ← e1, hu]
        show (∃ e e', fX6_show_L7b (Xr k) (dn i) u s w = some (.inr e) ∧ fX9_strip_L17b (nI k) Mr (dn i) g st gw = some (.inr e') ∧ _) ∨ ∃ j s' t', j < i ∧ fX6_show_L7b (Xr k) (dn i) u s w = some (.inl s') ∧ fX9_strip_L17b (nI k) Mr (dn i) g st gw = some (.inl t') ∧ _
        unfold fX6_show_L7b fX9_strip_L17b
        cases i with
        | zero =>
          left
          rw [if_pos dn_0, if_pos dn_0]
          exact ⟨_, _, rfl, rfl, hRB, by rw [hgc]; exact hu.symm⟩
        | succ n =>
          right
          have hlt := dgt_lt (Xr k) n
          rw [dn_s, if_neg (nI_not_neg (by omega)), if_neg (nI_not_neg (by omega)), digit8 hf (by omega), rdJ_n hk (by decide), (hA k hk).1]
          simp only [Option.bind_some]
          rw [digit9 hf (by omega)]
          simp only [Option.bind_some, fX5_way]
          by_cases hd : dgt (Xr k) n = 0
          · rw [if_pos ((nI_z (by omega)).mpr hd), if_neg (by rw [nI_p (by omega)]; omega)]
            exact ⟨n, _, _, by omega, rfl, rfl, by omega, rfl, rfl, hRB, c, by omega, hu⟩
          · subst hu
            subst hgc
            rw [if_neg (fun q => hd ((nI_z (by omega)).mp q)), if_pos (by rw [nI_p (by omega)]; omega), append_n _ _ _ _ (by omega), wrI_n _ (by omega) (by decide)]
            simp only [bn3, Option.bind_some]
            rw [wrI_n _ (by omega) (by decide), (way_ok n (by omega)).1, (way_ok n (by omega)).2]
            simp only [Option.bind_some, nI_inc]
            exact ⟨n, _, _, by omega, rfl, rfl, by omega, rfl, rfl, RB_push hRB (by omega) rfl ⟨by omega, by omega⟩ (by omega), c + 1, by omega, rfl⟩) KF 12 ((11 : Int32), (0 : Int32), s, w) ((11 : Int32), (0 : Int32), st, gw) (KF_lt (by decide)) ⟨Nat.le_refl _, dn_12, dn_12, ⟨0, by omega, rfl, rfl, fun i hi => absurd hi (by omega)⟩, 0, by omega, rfl⟩
    obtain ⟨e1, e2, e3⟩ := e
    obtain ⟨f1, f2, f3⟩ := e'
    rw [h1, h2]
    dsimp only at h3 h4
    subst h4
    exact ⟨_, _, _, _, _, _, _, rfl, rfl, h3⟩
  · rw [h8, h9]
    exact ⟨_, _, _, _, _, _, _, rfl, rfl, h⟩
