/-! ===== readings: the class ===== -/
theorem ix13 (g l : Nat) : nI g * (13 : Int32) + nI l = nI (13 * g + l) := by
  rw [show nI g * (13 : Int32) = nI (g * 13) from nI_mul g 13, nI_add, Nat.mul_comm g 13]
theorem lt169 {i : Nat} (h : i < 169) : nI i < (169 : Int32) := nI_lt (b := 169) h (by decide)
theorem below_n {f : Nat → Int32} {g l : Nat} (h : 13 * g + l < 169) : fX6_layoutsBelow (nI g) (nI l) f = some (f (13 * g + l)) := by
  unfold fX6_layoutsBelow
  rw [ix13, if_neg (nI_not_neg (by omega)), if_pos (lt169 h), rdI_n h (by decide)]
  rfl
theorem b37_n {f : Nat → Int32} {g l : Nat} (v : Int32) (h : 13 * g + l < 169) : fX6_countLayouts_B37 (nI g) (nI l) v f = some (upd f (13 * g + l) v) := by
  unfold fX6_countLayouts_B37
  rw [ix13, if_neg (nI_not_neg (by omega)), if_pos (lt169 h), wrI_n _ h (by decide)]
  rfl
theorem with_n {c : Nat} {W : Nat → Nat} {w f : Nat → Int32} {g p : Nat} (hg : g < c) (hc : c ≤ 12) (hp : p < 12) (hW : w g = nI (W g) ∧ W g < 2) (hf : f (13 * (g + 1) + p) = nI (Lay c W p (g + 1))) : fX6_layoutsWith (nI g) (nI p) w f = some (nI (if g < c ∧ W g = p % 2 then Lay c W p (g + 1) else 0)) := by
  unfold fX6_layoutsWith fX5_way
  rw [if_neg (nI_not_neg (by omega)), if_pos (lt12 (by omega)), rdI_n (by omega) (by decide), hW.1, (way_ok p hp).1, nI_inc, below_n (by omega), hf]
  simp only [Option.bind_some]
  have h2 := hW.2
  by_cases e : W g = p % 2
  · rw [if_pos (by rw [e]), if_pos ⟨hg, e⟩]
  · rw [if_neg (nI_ne e (by omega) (by omega)), if_neg (fun q => e q.2)]
    rfl
theorem countLayouts_n {c : Nat} {W : Nat → Nat} {w f : Nat → Int32} {g l : Nat} (hg : g ≤ c) (hc : c ≤ 12) (hl : l ≤ 12) (hW : ∀ i, i < c → w i = nI (W i) ∧ W i < 2) (hlow : ∀ l', l' < l → f (13 * g + l') = nI (Lay c W l' g)) (hnext : ∀ g', g < g' → g' ≤ c → ∀ l', l' ≤ 12 → f (13 * g' + l') = nI (Lay c W l' g')) : fX6_countLayouts (nI g) (nI l) (nI c) w f = some (upd f (13 * g + l) (nI (Lay c W l g))) := by
  have hin : 13 * g + l < 169 := by omega
  unfold fX6_countLayouts
  by_cases e : g = c
  · subst e
    rw [if_pos rfl, Lay_c]
    exact b37_n (nI 1) hin
  · rw [if_neg (nI_ne e (by omega) (by omega))]
    rcases l with _ | l
    · rw [if_neg (show ¬ (0 : Int32) < nI 0 by decide)]
      simp only [Lay]
      rw [if_neg e]
      exact b37_n (nI 0) hin
    · rw [if_pos ((nI_p (by omega)).mpr (by omega)), nI_p1, below_n (by omega), with_n (c := c) (W := W) (by omega) hc (by omega) (hW g (by omega)) (hnext (g + 1) (by omega) (by omega) l (by omega)), hlow l (by omega)]
      simp only [Option.bind_some, nI_add]
      exact b37_n _ hin
theorem countInner_n {c : Nat} {W : Nat → Nat} {w f : Nat → Int32} {g : Nat} (hg : g ≤ c) (hc : c ≤ 12) (hW : ∀ i, i < c → w i = nI (W i) ∧ W i < 2) (hnext : ∀ g', g < g' → g' ≤ c → ∀ l', l' ≤ 12 → f (13 * g' + l') = nI (Lay c W l' g')) : ∃ f', itr (fX6_countReadings_L11 (nI g) (nI c) w) KF ((0 : Int32), f) = some f' ∧ ∀ g', g ≤ g' → g' ≤ c → ∀ l', l' ≤ 12 → f' (13 * g' + l') = nI (Lay c W l' g') :=
  itr_ex (f := fX6_countReadings_L11 (nI g) (nI c) w)
    (fun m s => ∃ l, l ≤ 13 ∧ m = 13 - l ∧ s.1 = nI l ∧ (∀ l', l' < l → s.2 (13 * g + l') = nI (Lay c W l' g)) ∧ ∀ g', g < g' → g' ≤ c → ∀ l', l' ≤ 12 → s.2 (13 * g' + l') = nI (Lay c W l' g'))
    (fun f' => ∀ g', g ≤ g' → g' ≤ c → ∀ l', l' ≤ 12 → f' (13 * g' + l') = nI (Lay c W l' g'))
    (fun m s hI => by
      obtain ⟨x, f⟩ := s
      obtain ⟨l, hl, rfl, hx, h1, h2⟩ := hI
      dsimp only at hx h1 h2
      subst hx
      show (∃ e, fX6_countReadings_L11b (nI g) (nI c) w (nI l) f = some (.inr e) ∧ _) ∨ ∃ j s', j < 13 - l ∧ fX6_countReadings_L11b (nI g) (nI c) w (nI l) f = some (.inl s') ∧ _
      unfold fX6_countReadings_L11b
      rcases Nat.lt_or_ge 12 l with hlt | hge
      · left
        have : l = 13 := by omega
        subst this
        rw [if_pos (show (12 : Int32) < nI 13 by decide)]
        refine ⟨_, rfl, fun g' hg1 hg2 l' hl' => ?_⟩
        by_cases e : g' = g
        · subst e; exact h1 l' (by omega)
        · exact h2 g' (by omega) hg2 l' hl'
      · right
        rw [if_neg (show ¬ (12 : Int32) < nI l from nI_nlt (a := 12) hge (by decide)), countLayouts_n hg hc hge hW h1 h2]
        simp only [Option.bind_some, nI_inc]
        refine ⟨13 - (l + 1), _, by omega, rfl, l + 1, by omega, rfl, rfl, fun l' hl' => ?_, fun g' hg1 hg2 l' hl' => ?_⟩
        · by_cases e : l' = l
          · subst e; exact upd_at _ _ _
          · show upd f (13 * g + l) _ (13 * g + l') = _
            rw [upd_ne (by omega)]
            exact h1 l' (by omega)
        · show upd f (13 * g + l) _ (13 * g' + l') = _
          rw [upd_ne (by omega)]
          exact h2 g' hg1 hg2 l' hl') KF 13 ((0 : Int32), f) (KF_lt (by decide)) ⟨0, by omega, rfl, rfl, fun l' hl' => absurd hl' (by omega), hnext⟩
theorem countReadings_n {c : Nat} {W : Nat → Nat} {w : Nat → Int32} (f : Nat → Int32) (hc : c ≤ 12) (hW : ∀ i, i < c → w i = nI (W i) ∧ W i < 2) : ∃ f', fX6_countReadings (nI c) w f = some (nI (Lay c W 12 0), f') ∧ ∀ g', g' ≤ c → ∀ l', l' ≤ 12 → f' (13 * g' + l') = nI (Lay c W l' g') := by
  obtain ⟨e, h1, h2⟩ := itr_ex (f := fX6_countReadings_L5 (nI c) w)
    (fun m s => ∃ q, q ≤ c + 1 ∧ m = q ∧ s.1 = dn q ∧ ∀ g', q ≤ g' → g' ≤ c → ∀ l', l' ≤ 12 → s.2 (13 * g' + l') = nI (Lay c W l' g'))
    (fun f' => ∀ g', g' ≤ c → ∀ l', l' ≤ 12 → f' (13 * g' + l') = nI (Lay c W l' g'))
    (fun m s hI => by
      obtain ⟨x, f⟩ := s
      obtain ⟨q, hq, rfl, hx, h1⟩ := hI
      dsimp only at hx h1
      subst hx
      show (∃ e, fX6_countReadings_L5b (nI c) w (dn m) f = some (.inr e) ∧ _) ∨ ∃ j s', j < m ∧ fX6_countReadings_L5b (nI c) w (dn m) f = some (.inl s') ∧ _
      unfold fX6_countReadings_L5b
      rcases m with _ | g
      · left
        rw [if_pos dn_0]
        exact ⟨_, rfl, fun g' hg' => h1 g' (by omega) hg'⟩
      · right
        obtain ⟨f', k1, k2⟩ := countInner_n (g := g) (by omega) hc hW (f := f) (fun g' hg1 hg2 => h1 g' hg1 hg2)
        rw [dn_s, if_neg (nI_not_neg (by omega)), k1]
        simp only [Option.bind_some]
        exact ⟨g, _, by omega, rfl, g, by omega, rfl, rfl, k2⟩) KF (c + 1) (nI c, f) (KF_lt (by omega)) ⟨c + 1, by omega, rfl, (dn_s c).symm, fun g' h1 h2 => absurd h1 (by omega)⟩
  unfold fX6_countReadings
  rw [h1]
  simp only [Option.bind_some]
  rw [show fX6_layoutsBelow (0 : Int32) (12 : Int32) e = some (e (13 * 0 + 12)) from below_n (g := 0) (l := 12) (by omega), h2 0 (by omega) 12 (by omega)]
  exact ⟨e, rfl, h2⟩
theorem place_n {c : Nat} {W : Nat → Nat} {w f : Nat → Int32} (hc : c ≤ 12) (hW : ∀ i, i < c → w i = nI (W i) ∧ W i < 2) (hf : ∀ g', g' ≤ c → ∀ l', l' ≤ 12 → f (13 * g' + l') = nI (Lay c W l' g')) {g l i : Nat} (hg : g < c) (hl : l ≤ 12) (hi : i < Lay c W l g) (x4 : Int64) : ∃ e p, itr (fX6_findReading_L49 (nI l) x4 (nI g) w f) KF (nI i, (0 : Int32)) = some e ∧ p < l ∧ Lay c W p g ≤ i ∧ i < Lay c W (p + 1) g ∧ (e = .inl (nI (i - Lay c W p g), nI p) ∨ e = .inr (nI (i - Lay c W p g), nI p)) := by
  have h0 : Lay c W 0 g = 0 := by
    simp only [Lay]
    exact if_neg (by omega)
  have hl0 : 0 < l := by
    rcases Nat.eq_zero_or_pos l with e | e
    · subst e; omega
    · exact e
  have hle := Lay_le c W l g
  have h4096 : (2 : Nat) ^ l ≤ 2 ^ 12 := Nat.pow_le_pow_right (by decide) hl
  have e4096 : (2 : Nat) ^ 12 = 4096 := rfl
  obtain ⟨e, h1, h2⟩ := itr_ex (f := fX6_findReading_L49 (nI l) x4 (nI g) w f)
    (fun m s => ∃ p, p < l ∧ m = l - p ∧ s = (nI (i - Lay c W p g), nI p) ∧ Lay c W p g ≤ i)
    (fun e => ∃ p, p < l ∧ Lay c W p g ≤ i ∧ i < Lay c W (p + 1) g ∧ (e = .inl (nI (i - Lay c W p g), nI p) ∨ e = .inr (nI (i - Lay c W p g), nI p)))
    (fun m s hI => by
      obtain ⟨p, hp, rfl, rfl, hle⟩ := hI
      show (∃ e, fX6_findReading_L49b (nI l) x4 (nI g) w f (nI (i - Lay c W p g)) (nI p) = some (.inr e) ∧ _) ∨ ∃ j s', j < l - p ∧ fX6_findReading_L49b (nI l) x4 (nI g) w f (nI (i - Lay c W p g)) (nI p) = some (.inl s') ∧ _
      unfold fX6_findReading_L49b
      have hl1 : nI l - (1 : Int32) = nI (l - 1) := nI_b1 (b := l) hl0
      have hs : Lay c W (p + 1) g = Lay c W p g + (if g < c ∧ W g = p % 2 then Lay c W p (g + 1) else 0) := rfl
      rw [hl1]
      rcases Nat.lt_or_ge p (l - 1) with hlt | hge
      · rw [if_pos (nI_lt hlt (by omega)), with_n (c := c) (W := W) hg hc (by omega) (hW g hg) (hf (g + 1) (by omega) p (by omega))]
        simp only [Option.bind_some]
        have hm := Lay_mono c W g (show p + 1 ≤ l by omega)
        obtain ⟨T, hT⟩ : ∃ T, T = (if g < c ∧ W g = p % 2 then Lay c W p (g + 1) else 0) := ⟨_, rfl⟩
        rw [← hT] at hs ⊢
        by_cases k : i - Lay c W p g < T
        · left
          rw [if_pos (nI_lt k (by omega))]
          exact ⟨_, rfl, p, hp, hle, by omega, Or.inr rfl⟩
        · right
          rw [if_neg (nI_nlt (by omega) (by omega)), nI_inc]
          have hsub : nI (i - Lay c W p g) - nI T = nI (i - Lay c W (p + 1) g) := by
            apply nI_of_toInt
            rw [t32_sub] <;> rw [nI_toInt (by omega), nI_toInt (by omega)] <;> omega
          rw [hsub]
          exact ⟨l - (p + 1), _, by omega, rfl, p + 1, by omega, rfl, rfl, by omega⟩
      · left
        rw [if_neg (nI_nlt (by omega) (by omega))]
        have : p + 1 = l := by omega
        exact ⟨_, rfl, p, hp, hle, by rw [this]; exact hi, Or.inl rfl⟩) KF l (nI i, (0 : Int32)) (KF_lt (by omega)) ⟨0, hl0, rfl, by rw [h0]; rfl, by rw [h0]; omega⟩
  obtain ⟨p, q1, q2, q3, q4⟩ := h2
  exact ⟨e, p, h1, q1, q2, q3, q4⟩
theorem find_n {c : Nat} {W Z : Nat → Nat} {z w f : Nat → Int32} (hc : c ≤ 12) (hR : ∀ i, i < c → z i = nI (Z i) ∧ w i = nI (W i) ∧ 1 ≤ Z i ∧ Z i ≤ 9 ∧ W i < 2) (hf : ∀ g', g' ≤ c → ∀ l', l' ≤ 12 → f (13 * g' + l') = nI (Lay c W l' g')) {i : Nat} (hi : i < Lay c W 12 0) : itr (fX6_findReading_L27 (nI c) z w f) KF (nI i, (12 : Int32), (0 : Int64), (0 : Int32)) = some (lN (nth c W Z 12 0 i)) := by
  have hZ : ∀ g, g < c → Z g ≤ 9 := fun g hg => (hR g hg).2.2.2.1
  have hW : ∀ i, i < c → w i = nI (W i) ∧ W i < 2 := fun i hi => ⟨(hR i hi).2.1, (hR i hi).2.2.2.2⟩
  have hn12 := nth_lt hZ hi
  have e12 : (10 : Nat) ^ 12 = 1000000000000 := rfl
  obtain ⟨e, h1, h2⟩ := itr_ex (f := fX6_findReading_L27 (nI c) z w f)
    (fun m s => ∃ g l v j, g ≤ c ∧ m = c - g ∧ l ≤ 12 ∧ s = (nI j, nI l, lN v, nI g) ∧ j < Lay c W l g ∧ v + nth c W Z l g j = nth c W Z 12 0 i)
    (fun e => e = lN (nth c W Z 12 0 i))
    (fun m s hI => by
      obtain ⟨g, l, v, j, hg, rfl, hl, rfl, hj, hv⟩ := hI
      show (∃ e, fX6_findReading_L27b (nI c) z w f (nI j) (nI l) (lN v) (nI g) = some (.inr e) ∧ _) ∨ ∃ k s', k < c - g ∧ fX6_findReading_L27b (nI c) z w f (nI j) (nI l) (lN v) (nI g) = some (.inl s') ∧ _
      unfold fX6_findReading_L27b
      rcases Nat.lt_or_ge g c with hlt | hge
      · right
        obtain ⟨e, p, k1, k2, k3, k4, k5⟩ := place_n hc hW hf hlt hl hj (lN v)
        have hnat := nth_at (Z := Z) k3 k4 l k2
        have hnx : j - Lay c W p g < Lay c W p (g + 1) := by
          have hs : Lay c W (p + 1) g = Lay c W p g + (if g < c ∧ W g = p % 2 then Lay c W p (g + 1) else 0) := rfl
          by_cases q : g < c ∧ W g = p % 2
          · rw [if_pos q] at hs; omega
          · rw [if_neg q] at hs; omega
        have hval : lN v + (nI (Z g)).toInt64 * tensF p = lN (v + Z g * 10 ^ p) := by
          have hT := pow10_le (show p < 12 by omega)
          have hz9 := hZ g hlt
          have hzT : Z g * 10 ^ p ≤ 9 * 100000000000 := Nat.mul_le_mul hz9 hT
          obtain ⟨m1, m2⟩ := more_ok (nd := nI (Z g)) (d := (Z g : Int)) (p := p) (nI_toInt (by omega)) (by omega) (by omega)
          have m1' : ((nI (Z g)).toInt64 * tensF p).toInt = ((Z g * 10 ^ p : Nat) : Int) := by rw [m1, Int.natCast_mul]
          have hv' : (lN v).toInt = (v : Int) := lN_toInt' (by omega)
          apply lN_of_toInt
          rw [t64_add] <;> rw [m1', hv'] <;> omega
        rw [if_pos (nI_lt hlt (by omega)), if_pos (lt12 (by omega)), k1]
        simp only [Option.bind_some]
        have body : ∀ e : (Int32 × Int32) ⊕ (Int32 × Int32), (e = .inl (nI (j - Lay c W p g), nI p) ∨ e = .inr (nI (j - Lay c W p g), nI p)) → (Sum.elim (un2 (fun x2_14 x7_15 => Option.bind (rdI z 12 (nI g)) (fun v_16 => Option.bind (fX5_tenTo x7_15) (fun r_17 => some (Sum.inl (β := Int64) (x2_14, x7_15, lN v + (v_16.toInt64 * r_17), nI g + (1 : Int32))))))) (un2 (fun x2_19 x7_20 => Option.bind (rdI z 12 (nI g)) (fun v_21 => Option.bind (fX5_tenTo x7_20) (fun r_22 => some (Sum.inl (β := Int64) (x2_19, x7_20, lN v + (v_21.toInt64 * r_22), nI g + (1 : Int32)))))))) e = some (Sum.inl (nI (j - Lay c W p g), nI p, lN (v + Z g * 10 ^ p), nI (g + 1))) := by
          intro e he
          rcases he with rfl | rfl
          · show Option.bind (rdI z 12 (nI g)) _ = _
            rw [rdI_n (by omega) (by decide), (hR g hlt).1]
            simp only [Option.bind_some]
            rw [tenTo8 p (by omega)]
            simp only [Option.bind_some]
            rw [hval, nI_inc]
          · show Option.bind (rdI z 12 (nI g)) _ = _
            rw [rdI_n (by omega) (by decide), (hR g hlt).1]
            simp only [Option.bind_some]
            rw [tenTo8 p (by omega)]
            simp only [Option.bind_some]
            rw [hval, nI_inc]
        rw [body e k5]
        exact ⟨c - (g + 1), _, by omega, rfl, g + 1, p, v + Z g * 10 ^ p, j - Lay c W p g, by omega, rfl, by omega, rfl, hnx, by omega⟩
      · left
        have : g = c := by omega
        subst this
        rw [if_neg (nI_nlt (Nat.le_refl _) (by omega))]
        rw [Lay_c] at hj
        have : j = 0 := by omega
        subst this
        rw [nth_c] at hv
        exact ⟨_, rfl, by rw [← hv, Nat.add_zero]⟩) KF c (nI i, (12 : Int32), (0 : Int64), (0 : Int32)) (KF_lt (by omega)) ⟨0, 12, 0, i, by omega, rfl, by omega, rfl, hi, by omega⟩
  rw [h1, h2]
/-! ===== readings: both ways ===== -/
theorem RB_nat {u s w g st gw} (h : RB u s w g st gw) : ∃ (c : Nat) (W Z : Nat → Nat), c ≤ 12 ∧ u = nI c ∧ g = nI c ∧ (∀ i, i < c → s i = nI (Z i) ∧ w i = nI (W i) ∧ 1 ≤ Z i ∧ Z i ≤ 9 ∧ W i < 2) ∧ ∀ i, i < c → st i = nI (Z i) ∧ gw i = nI (W i) ∧ 1 ≤ Z i ∧ Z i ≤ 9 ∧ W i < 2 := by
  obtain ⟨c, hc, h1, h2, h3⟩ := h
  have key : ∀ i, i < c → s i = nI ((s i).toInt.toNat) ∧ w i = nI ((w i).toInt.toNat) ∧ 1 ≤ (s i).toInt.toNat ∧ (s i).toInt.toNat ≤ 9 ∧ (w i).toInt.toNat < 2 := by
    intro i hi
    obtain ⟨-, -, ⟨a, a1, a9, ha⟩, ⟨d, hd, hw⟩⟩ := h3 i hi
    have ea : (nI a).toInt = (a : Int) := nI_toInt (by omega)
    have ed : (nI d).toInt = (d : Int) := nI_toInt (by omega)
    rw [ha, hw, ea, ed]
    exact ⟨rfl, rfl, a1, a9, hd⟩
  refine ⟨c, fun i => (w i).toInt.toNat, fun i => (s i).toInt.toNat, hc, h1, h2, key, fun i hi => ?_⟩
  obtain ⟨e1, e2, -⟩ := h3 i hi
  rw [e1, e2]
  exact key i hi
theorem G_readings {u s w g st gw} (h : RB u s w g st gw) (f : Nat → Int32) : ∃ (r : Int32) (f' : Nat → Int32), fX8_readings u w f = some (r, f') ∧ fX9_readings g st gw = some r := by
  obtain ⟨c, W, Z, hc, rfl, rfl, h1, h2⟩ := RB_nat h
  obtain ⟨f', k1, -⟩ := countReadings_n (W := W) (w := w) f hc (fun i hi => ⟨(h1 i hi).2.1, (h1 i hi).2.2.2.2⟩)
  unfold fX8_readings
  rw [k1, readings9_n hc h2]
  exact ⟨_, f', rfl, rfl⟩
theorem G_reading (p0 : Int32) {u s w g st gw} (h : RB u s w g st gw) (f : Nat → Int32) : ∃ (r : Int64) (f' : Nat → Int32), fX8_reading p0 u s w f = some (r, f') ∧ fX9_reading p0 g st gw = some r := by
  obtain ⟨c, W, Z, hc, rfl, rfl, h1, h2⟩ := RB_nat h
  obtain ⟨f', k1, k2⟩ := countReadings_n (W := W) (w := w) f hc (fun i hi => ⟨(h1 i hi).2.1, (h1 i hi).2.2.2.2⟩)
  have hle := Lay_le c W 12 0
  have e4096 : (2 : Nat) ^ 12 = 4096 := rfl
  unfold fX8_reading fX6_findReading
  by_cases hn : p0.toInt < 0
  · have hn' : p0 < (0 : Int32) := by rw [Int32.lt_iff_toInt_lt]; exact hn
    rw [if_pos hn', reading9_b hc h2 (fun i hi e => by
      have : (nI i).toInt = (i : Int) := nI_toInt (by omega)
      rw [e] at hn
      omega)]
    exact ⟨_, f, rfl, rfl⟩
  · obtain ⟨i, hi, rfl⟩ := nI_ex (show 0 ≤ p0.toInt by omega)
    rw [if_neg (nI_not_neg hi), k1]
    simp only [bn2, Option.bind_some]
    by_cases k : i < Lay c W 12 0
    · rw [if_pos (nI_lt k (by omega)), find_n hc h1 k2 k, reading9_a hc h2 k]
      exact ⟨_, f', rfl, rfl⟩
    · rw [if_neg (nI_nlt (by omega) hi), reading9_b hc h2 (fun i' hi' => nI_ne (by omega) hi (by omega))]
      exact ⟨_, f', rfl, rfl⟩
