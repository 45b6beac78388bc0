/-! ===== counts ===== -/
def RE (Xz : Int32) (Xb Xl : Nat → Int32) (Mc : Int32) (Mb Ml : Nat → Int32) : Prop := ∃ (c : Nat) (B L : Nat → Nat), c ≤ 6 ∧ Xz = nI c ∧ Mc = nI c ∧ ∀ i, i < c → Xb i = nI (B i) ∧ Mb i = nI (B i) ∧ Xl i = nI (L i) ∧ Ml i = nI (L i) ∧ 2 ≤ B i ∧ B i ≤ 1000 ∧ L i < B i
def upN (f : Nat → Nat) (k v : Nat) : Nat → Nat := fun j => if j = k then v else f j
theorem upN_at (f : Nat → Nat) (k v : Nat) : upN f k v k = v := if_pos rfl
theorem upN_ne {f : Nat → Nat} {k j v : Nat} (h : j ≠ k) : upN f k v j = f j := if_neg h
theorem lt6 {i : Nat} (h : i < 6) : nI i < (6 : Int32) := nI_lt h (by decide)
theorem ne6 {i : Nat} (h : i < 6) : ¬ nI i = (6 : Int32) := fun q => by
  have := (nI_eq (a := i) (b := 6) (by omega) (by decide)).mp q
  omega
theorem G_count (p0 p1 : Int32) {z b l mc mb ml} (h : RE z b l mc mb ml) : ∃ (r o1 : Int32) (o2 o3 : Nat → Int32) (q1 : Int32) (q2 q3 : Nat → Int32), fX8_count p0 p1 z b l = some (r, o1, o2, o3) ∧ fX9_count p0 p1 mc mb ml = some (r, q1, q2, q3) ∧ RE o1 o2 o3 q1 q2 q3 := by
  unfold fX8_count fX9_count
  obtain ⟨c, B, L, hc, rfl, rfl, h3⟩ := id h
  have e2 : (2 : Int32).toInt = 2 := rfl
  have e1000 : (1000 : Int32).toInt = 1000 := rfl
  have e0 : (0 : Int32).toInt = 0 := rfl
  have e1 : (1 : Int32).toInt = 1 := rfl
  have f2 : (2 : Int64).toInt = 2 := rfl
  have f1000 : (1000 : Int64).toInt = 1000 := rfl
  have f0 : (0 : Int64).toInt = 0 := rfl
  simp only [Int32.lt_iff_toInt_lt, e2, e1000, e0]
  by_cases a1 : 2 ≤ p0.toInt ∧ p0.toInt ≤ 1000
  · rw [if_neg (by omega), if_neg (by omega), in9_y (by rw [t32_to64]; exact a1.1) (by rw [t32_to64]; exact a1.2)]
    have es : ((p0 - 1).toInt64).toInt = p0.toInt - 1 := by rw [t32_to64, t32_sub (by omega) (by omega), e1]
    simp only [Option.bind_some, i10]
    by_cases a2 : 0 ≤ p1.toInt ∧ p1.toInt < p0.toInt
    · rw [if_neg (by omega), if_pos a2.2, in9_y (by rw [t32_to64]; exact a2.1) (by rw [t32_to64, es]; omega)]
      simp only [Option.bind_some, i10, fX2_isFull]
      obtain ⟨x, hx, rfl⟩ : ∃ x : Nat, (2 ≤ x ∧ x ≤ 1000) ∧ p0 = nI x := ⟨p0.toInt.toNat, by omega, nI_of_toInt (by omega)⟩
      obtain ⟨y, rfl⟩ : ∃ y : Nat, p1 = nI y := ⟨p1.toInt.toNat, nI_of_toInt (by omega)⟩
      have hy0 : y < 2 ^ 31 ∨ 2 ^ 31 ≤ y := by omega
      by_cases hf : c < 6
      · rw [if_pos (lt6 hf), if_neg (ne6 hf)]
        simp only [Option.bind_some, i00, fX2_append, fX2_size]
        rw [if_neg (nI_not_neg (by omega)), if_pos (lt6 hf), if_pos (lt6 hf), wrI_n _ hf (by decide), wrI_n _ hf (by decide), wrI_n _ hf (by decide), wrI_n _ hf (by decide)]
        simp only [bn3, Option.bind_some, nI_inc]
        refine ⟨_, _, _, _, _, _, _, rfl, rfl, c + 1, upN B c x, upN L c (nI y).toInt.toNat, by omega, rfl, rfl, fun i hi => ?_⟩
        by_cases e : i = c
        · subst e
          have e5 : (nI x).toInt = x := nI_toInt (by omega)
          have e6 : nI y = nI ((nI y).toInt.toNat) := nI_of_toInt (by omega)
          rw [upd_at, upd_at, upd_at, upd_at, upN_at, upN_at]
          exact ⟨rfl, rfl, e6, e6, hx.1, hx.2, by omega⟩
        · rw [upd_ne e, upd_ne e, upd_ne e, upd_ne e, upN_ne e, upN_ne e]; exact h3 i (by omega)
      · have : c = 6 := by omega
        subst this
        rw [if_neg (by decide), if_pos (show nI 6 = (6 : Int32) from rfl)]
        exact ⟨_, _, _, _, _, _, _, rfl, rfl, h⟩
    · rw [in9_no (by rw [t32_to64, es]; show ¬ (0 ≤ p1.toInt ∧ _); omega)]
      refine ⟨-2, _, _, _, _, _, _, ?_, rfl, h⟩
      by_cases a3 : p1.toInt < 0
      · rw [if_pos a3]
      · rw [if_neg a3, if_neg (by omega)]
  · rw [in9_no (by rw [t32_to64]; exact a1)]
    refine ⟨-2, _, _, _, _, _, _, ?_, rfl, h⟩
    by_cases a3 : p0.toInt < 2
    · rw [if_pos a3]
    · rw [if_neg a3, if_pos (by omega)]
theorem G_drop {z b l mc mb ml} (h : RE z b l mc mb ml) : ∃ (r o1 q1 : Int32), fX8_drop z = some (r, o1) ∧ fX9_drop mc = some (r, q1) ∧ RE o1 b l q1 mb ml := by
  obtain ⟨c, B, L, hc, rfl, rfl, h3⟩ := h
  exact ⟨nI c, 0, 0, rfl, rfl, 0, B, L, by omega, rfl, rfl, fun i hi => absurd hi (by omega)⟩
theorem by_n {f : Nat → Int32} {i : Nat} (h : i < 6) : fX2_by (nI i) f = some (f i) := by
  unfold fX2_by
  rw [if_neg (nI_not_neg (by omega)), if_pos (lt6 h), rdI_n h (by decide)]; rfl
theorem left_n {f : Nat → Int32} {i : Nat} (h : i < 6) : fX2_left (nI i) f = some (f i) := by
  unfold fX2_left
  rw [if_neg (nI_not_neg (by omega)), if_pos (lt6 h), rdI_n h (by decide)]; rfl
theorem gcd8n {a b : Nat} (ha : a < 2 ^ 31) (hb : b < 2 ^ 31) : fX5_greatestPart (nI a).toInt64 (nI b).toInt64 = some (lN (Nat.gcd a b)) := by
  rw [gcd8 (by rw [nI_64 ha]; omega) (by rw [nI_64 hb]; omega), nI_64 ha, nI_64 hb]; rfl
theorem gcd9n {a b : Nat} (ha : a < 2 ^ 31) (hb : b < 2 ^ 31) : fX9_common (nI a).toInt64 (nI b).toInt64 = some (lN (Nat.gcd a b)) := by
  rw [gcd9 (by rw [nI_64 ha]; omega) (by rw [nI_64 hb]; omega), nI_64 ha, nI_64 hb]; rfl
theorem rmz (z : Int64) {g : Nat} (h0 : 0 < g) (hg : g < 2 ^ 63) : ∃ v, rmJ z (lN g) = some v ∧ (v = 0 ↔ (g : Int) ∣ z.toInt) := by
  have hne : ¬ lN g = 0 := fun q => by have := (lN_z hg).mp q; omega
  refine ⟨z % lN g, by unfold rmJ; rw [if_neg hne], ?_⟩
  have e : (z % lN g).toInt = z.toInt.tmod g := by rw [Int64.toInt_mod, lN_toInt' hg]
  constructor
  · intro q
    rw [q] at e
    exact Int.dvd_of_tmod_eq_zero e.symm
  · intro q
    apply Int64.toInt_inj.mp
    rw [e, Int.tmod_eq_zero_of_dvd q]; rfl
def compat (B L : Nat → Nat) (i j : Nat) : Prop := (Nat.gcd (B i) (B j) : Int) ∣ ((L i : Int) - L j)
theorem clash_inner {b l mb ml : Nat → Int32} {c : Nat} {B L : Nat → Nat} (hc : c ≤ 6) (h3 : ∀ i, i < c → b i = nI (B i) ∧ mb i = nI (B i) ∧ l i = nI (L i) ∧ ml i = nI (L i) ∧ 2 ≤ B i ∧ B i ≤ 1000 ∧ L i < B i) {i : Nat} (hi : i < c) : ∃ e : Unit ⊕ Int32, itr (fX2_firstClash_L12 (nI i) b l) KF (0 : Int32) = some e ∧ itr (fX9_clashing_L12 (nI i) mb ml) KF (0 : Int32) = some e ∧ (e = .inl () ∧ (∀ j, j < i → compat B L i j) ∨ e = .inr (nI i)) := by
  obtain ⟨e, e', h1, h2, rfl, h4⟩ := itr_rel (f := fX2_firstClash_L12 (nI i) b l) (g := fX9_clashing_L12 (nI i) mb ml)
    (fun m s t => ∃ j, j ≤ i ∧ s = nI j ∧ t = nI j ∧ m = i - j ∧ ∀ j', j' < j → compat B L i j')
    (fun e e' => e = e' ∧ (e = .inl () ∧ (∀ j, j < i → compat B L i j) ∨ e = .inr (nI i)))
    (fun m s t hI => by
      obtain ⟨j, hj, rfl, rfl, rfl, hall⟩ := hI
      show (∃ e e', fX2_firstClash_L12b (nI i) b l (nI j) = some (.inr e) ∧ fX9_clashing_L12b (nI i) mb ml (nI j) = some (.inr e') ∧ _) ∨ ∃ j' s' t', j' < i - j ∧ fX2_firstClash_L12b (nI i) b l (nI j) = some (.inl s') ∧ fX9_clashing_L12b (nI i) mb ml (nI j) = some (.inl t') ∧ _
      unfold fX2_firstClash_L12b fX9_clashing_L12b
      rcases Nat.lt_or_ge j i with hlt | hge
      · rw [if_pos (nI_lt hlt (by omega)), if_pos (nI_lt hlt (by omega)), by_n (by omega), by_n (by omega), left_n (by omega), left_n (by omega), rdI_n (by omega) (by decide), rdI_n (by omega) (by decide), rdI_n (by omega) (by decide), rdI_n (by omega) (by decide)]
        obtain ⟨b1, b2, b3, b4, b5, b6, b7⟩ := h3 i hi
        obtain ⟨d1, d2, d3, d4, d5, d6, d7⟩ := h3 j (by omega)
        simp only [Option.bind_some]
        rw [b1, b2, b3, b4, d1, d2, d3, d4, gcd8n (by omega) (by omega), gcd9n (by omega) (by omega)]
        simp only [Option.bind_some]
        have hg0 : 0 < Nat.gcd (B i) (B j) := Nat.gcd_pos_of_pos_left _ (by omega)
        have hg1 : Nat.gcd (B i) (B j) ≤ B i := Nat.gcd_le_left _ (by omega)
        have hne : ¬ lN (Nat.gcd (B i) (B j)) = 0 := fun q => by have := (lN_z (by omega)).mp q; omega
        rw [if_neg hne]
        obtain ⟨v, hv, hv0⟩ := rmz ((nI (L i) - nI (L j)).toInt64) hg0 (by omega)
        rw [hv]
        simp only [Option.bind_some]
        have hz : ((nI (L i) - nI (L j)).toInt64).toInt = (L i : Int) - L j := by
          rw [t32_to64, t32_sub, nI_toInt (by omega), nI_toInt (by omega)] <;> rw [nI_toInt (by omega), nI_toInt (by omega)] <;> omega
        rw [hz] at hv0
        by_cases q : v = 0
        · right
          rw [if_pos q, nI_inc]
          refine ⟨i - (j + 1), _, _, by omega, rfl, rfl, j + 1, by omega, rfl, rfl, rfl, fun j' hj' => ?_⟩
          rcases Nat.lt_or_ge j' j with z | z
          · exact hall j' z
          · have : j' = j := by omega
            subst this
            exact hv0.mp q
        · left
          rw [if_neg q]
          exact ⟨_, _, rfl, rfl, rfl, Or.inr rfl⟩
      · left
        have : j = i := by omega
        subst this
        rw [if_neg (nI_nlt (Nat.le_refl _) (by omega)), if_neg (nI_nlt (Nat.le_refl _) (by omega))]
        exact ⟨_, _, rfl, rfl, rfl, Or.inl ⟨rfl, hall⟩⟩) KF i (0 : Int32) (0 : Int32) (KF_lt (by omega)) ⟨0, by omega, rfl, rfl, by omega, fun j hj => absurd hj (by omega)⟩
  exact ⟨e, h1, h2, h4⟩
theorem clash_both {z b l mc mb ml} {c : Nat} {B L : Nat → Nat} (hc : c ≤ 6) (hz : z = nI c) (hm : mc = nI c) (h3 : ∀ i, i < c → b i = nI (B i) ∧ mb i = nI (B i) ∧ l i = nI (L i) ∧ ml i = nI (L i) ∧ 2 ≤ B i ∧ B i ≤ 1000 ∧ L i < B i) : ∃ r : Int32, fX2_firstClash z b l = some r ∧ fX9_clashing mc mb ml = some r ∧ (r = -6 ∧ (∀ i, i < c → ∀ j, j < i → compat B L i j) ∨ ∃ k, k < 6 ∧ r = nI k) := by
  subst hz
  subst hm
  obtain ⟨e, e', h1, h2, rfl, h4⟩ := itr_rel (f := fX2_firstClash_L2 (nI c) b l) (g := fX9_clashing_L2 (nI c) mb ml)
    (fun m s t => ∃ i, i ≤ c ∧ s = nI i ∧ t = nI i ∧ m = c - i ∧ ∀ i', i' < i → ∀ j, j < i' → compat B L i' j)
    (fun e e' => e = e' ∧ (e = .inl () ∧ (∀ i, i < c → ∀ j, j < i → compat B L i j) ∨ ∃ k, k < 6 ∧ e = .inr (nI k)))
    (fun m s t hI => by
      obtain ⟨i, hi, rfl, rfl, rfl, hall⟩ := hI
      show (∃ e e', fX2_firstClash_L2b (nI c) b l (nI i) = some (.inr e) ∧ fX9_clashing_L2b (nI c) mb ml (nI i) = some (.inr e') ∧ _) ∨ ∃ j' s' t', j' < c - i ∧ fX2_firstClash_L2b (nI c) b l (nI i) = some (.inl s') ∧ fX9_clashing_L2b (nI c) mb ml (nI i) = some (.inl t') ∧ _
      unfold fX2_firstClash_L2b fX9_clashing_L2b
      rcases Nat.lt_or_ge i c with hlt | hge
      · rw [if_pos (nI_lt hlt (by omega)), if_pos (nI_lt hlt (by omega))]
        obtain ⟨e, g1, g2, g3⟩ := clash_inner hc h3 hlt
        rw [g1, g2]
        simp only [Option.bind_some, nI_inc]
        rcases g3 with ⟨rfl, g3⟩ | rfl
        · right
          refine ⟨c - (i + 1), _, _, by omega, rfl, rfl, i + 1, by omega, rfl, rfl, rfl, fun i' hi' => ?_⟩
          rcases Nat.lt_or_ge i' i with z | z
          · exact hall i' z
          · have : i' = i := by omega
            subst this
            exact g3
        · left
          exact ⟨_, _, rfl, rfl, rfl, Or.inr ⟨i, by omega, rfl⟩⟩
      · left
        have : i = c := by omega
        subst this
        rw [if_neg (nI_nlt (Nat.le_refl _) (by omega)), if_neg (nI_nlt (Nat.le_refl _) (by omega))]
        exact ⟨_, _, rfl, rfl, rfl, Or.inl ⟨rfl, hall⟩⟩) KF c (0 : Int32) (0 : Int32) (KF_lt (by omega)) ⟨0, by omega, rfl, rfl, by omega, fun j hj => absurd hj (by omega)⟩
  unfold fX2_firstClash fX9_clashing
  rw [h1, h2]
  rcases h4 with ⟨rfl, h4⟩ | ⟨k, hk, rfl⟩
  · exact ⟨-6, rfl, rfl, Or.inl ⟨rfl, h4⟩⟩
  · exact ⟨nI k, rfl, rfl, Or.inr ⟨k, hk, rfl⟩⟩
theorem G_clash {z b l mc mb ml} (h : RE z b l mc mb ml) : ∃ r : Int32, fX8_clash z b l = some r ∧ fX9_clash mc mb ml = some r := by
  obtain ⟨c, B, L, hc, e1, e2, h3⟩ := h
  obtain ⟨r, h1, h2, -⟩ := clash_both hc e1 e2 h3
  unfold fX8_clash fX9_clash
  rw [h1, h2]
  exact ⟨r, rfl, rfl⟩
