/-! ===== mend: the search ===== -/
theorem walked_eq {N : Nat → Int32} {C C' : Nat → Int64} {i k a p : Nat} {d : Int} {b c : Nat} (hi : i < 48) (hV : NoteV N i k a p d b c) (hC : ∀ r, r < 8 → Fit (C (8 * i + r))) (hC' : ∀ r, r < 8 → Fit (C' (8 * i + r))) {r : Nat} (hr : r < 8) (e1 : wval k a (mI d p) b c (fun r => (C' (8 * i + r)).toInt) r = wval k a (mI d p) b c (fun r => (C (8 * i + r)).toInt) r) (e2 : wok k a (mI d p) b (fun r => (C' (8 * i + r)).toInt) r ↔ wok k a (mI d p) b (fun r => (C (8 * i + r)).toInt) r) : fX3_walked (nI i) (nI r) C' N = fX3_walked (nI i) (nI r) C N := by
  obtain ⟨z, h1, h2⟩ := walked_n hi hV hC hr
  obtain ⟨z', h3, h4⟩ := walked_n hi hV hC' hr
  rw [h1, h3]
  rcases h2 with ⟨a1, a2, a3⟩ | ⟨a1, a2⟩
  · rcases h4 with ⟨b1, b2, b3⟩ | ⟨b1, b2⟩
    · rw [Int64.toInt_inj.mp (a3.trans (e1.symm.trans b3.symm))]
    · exact absurd ⟨e2.mpr a1, by rw [e1]; exact a2⟩ b1
  · rcases h4 with ⟨b1, b2, b3⟩ | ⟨b1, b2⟩
    · exact absurd ⟨e2.mp b1, by rw [← e1]; exact b2⟩ a1
    · rw [a2, b2]
theorem wval_mod {k a : Nat} {m : Int} {b c row x : Nat} {f g : Nat → Int} (hfg : ∀ y, y < 8 → y ≠ row → g y = f y) (hb : b < 8) (hx : x < 8) (hxr : x ≠ row) (hk : k < 6) (q : x = a → (k = 2 ∨ k = 3 ∨ k = 4) → b ≠ row) : wval k a m b c g x = wval k a m b c f x ∧ (wok k a m b g x ↔ wok k a m b f x) := by
  have gx : g x = f x := hfg x hx hxr
  by_cases ha : x = a
  · by_cases k3 : k = 2 ∨ k = 3 ∨ k = 4
    · have gb : g b = f b := hfg b hb (q ha k3)
      unfold wval wok
      rw [gx, gb]
      exact ⟨rfl, Iff.rfl⟩
    · have hw : ∀ f : Nat → Int, wok k a m b f x := fun f _ => ⟨fun e => absurd (Or.inl e) k3, fun e => absurd (Or.inr e) k3⟩
      refine ⟨?_, fun _ => hw f, fun _ => hw g⟩
      have : k = 0 ∨ k = 1 ∨ k = 5 := by omega
      rcases this with rfl | rfl | rfl
      · show (if x = a then g x + m else g x) = (if x = a then f x + m else f x)
        rw [gx]
      · show (if x = a then g x + m else g x) = (if x = a then f x + m else f x)
        rw [gx]
      · show (if x = a then 0 else g x) = (if x = a then 0 else f x)
        rw [gx]
  · refine ⟨?_, fun _ e => absurd e ha, fun _ e => absurd e ha⟩
    unfold wval
    simp only [if_neg ha, gx]
theorem acts_n {N : Nat → Int32} {i k a p : Nat} {d : Int} {b c : Nat} (hi : i < 48) (hV : NoteV N i k a p d b c) {row : Nat} (hr : row < 8) : ∃ s, fX3_actsOnFirst (nI i) (nI row) N = some s ∧ (s = 1 ∨ (s = 0 ∧ ((k = 2 ∨ k = 3 ∨ k = 4) → b ≠ row))) := by
  obtain ⟨h0, h1, h2, h3, ha, hp, hd, hk⟩ := hV
  have c0 : fX3_noted (nI i) (0 : Int32) N = some (nI k) := by rw [← h0]; exact noted_n (r := 0) (by omega)
  unfold fX3_actsOnFirst
  rw [c0]
  simp only [Option.bind_some]
  have key : ∀ h4 : N (6 * i + 4) = nI b, ∀ hb : b < 8, ∃ s, fX3_actsOnFirst_B22 (nI i) (nI row) N = some s ∧ (s = 1 ∨ (s = 0 ∧ ((k = 2 ∨ k = 3 ∨ k = 4) → b ≠ row))) := by
    intro h4 hb
    have c4 : fX3_noted (nI i) (4 : Int32) N = some (nI b) := by rw [← h4]; exact noted_n (r := 4) (by omega)
    unfold fX3_actsOnFirst_B22
    rw [c4]
    simp only [Option.bind_some]
    by_cases e : row = b
    · rw [if_pos (by rw [e])]
      exact ⟨1, rfl, Or.inl rfl⟩
    · rw [if_neg (nI_ne e (by omega) (by omega))]
      exact ⟨0, rfl, Or.inr ⟨rfl, fun _ q => e q.symm⟩⟩
  rcases hk with rfl | rfl | rfl | ⟨d1, d9, hb, hba, h4, hk⟩
  · exact ⟨0, rfl, Or.inr ⟨rfl, fun q => by omega⟩⟩
  · exact ⟨0, rfl, Or.inr ⟨rfl, fun q => by omega⟩⟩
  · exact ⟨0, rfl, Or.inr ⟨rfl, fun q => by omega⟩⟩
  · rcases hk with ⟨rfl, -⟩ | ⟨rfl, -⟩ | ⟨rfl, -⟩
    · rw [if_pos (show nI 2 = (2 : Int32) from rfl)]
      exact key h4 hb
    · rw [if_neg (show ¬ nI 3 = (2 : Int32) by decide), if_pos (show nI 3 = (3 : Int32) from rfl)]
      exact key h4 hb
    · rw [if_neg (show ¬ nI 4 = (2 : Int32) by decide), if_neg (show ¬ nI 4 = (3 : Int32) by decide), if_pos (show nI 4 = (4 : Int32) from rfl)]
      exact key h4 hb
theorem may_loop {C : Nat → Int64} {N : Nat → Int32} {i row a : Nat} (z : Nat → Int64) (hi : i < 48) (hrow : row < 8) (ha : a < 8) (h1 : N (6 * i + 1) = nI a) (hz : ∀ r, r < 8 → fX3_walked (nI i) (nI r) C N = some (z r)) (s0 : Int32) : (∃ e, itr (fX1_mayMend_L27 (nI i) (nI row) s0 C N) KF (0 : Int32) = some e ∧ (e = .inl () ∨ (e = .inr 0 ∧ ∃ x, x < 8 ∧ x ≠ row ∧ (s0 = 0 ∨ x ≠ a) ∧ ¬ z x = C (8 * (i + 1) + x)))) :=
  itr_ex (f := fX1_mayMend_L27 (nI i) (nI row) s0 C N) (fun m s => ∃ j, j ≤ 8 ∧ m = 8 - j ∧ s = nI j) (fun e => e = .inl () ∨ (e = .inr 0 ∧ ∃ x, x < 8 ∧ x ≠ row ∧ (s0 = 0 ∨ x ≠ a) ∧ ¬ z x = C (8 * (i + 1) + x))) (fun m s hI => by
    obtain ⟨j, hj, rfl, rfl⟩ := hI
    show (∃ e, fX1_mayMend_L27b (nI i) (nI row) s0 C N (nI j) = some (.inr e) ∧ _) ∨ ∃ j' s', j' < 8 - j ∧ fX1_mayMend_L27b (nI i) (nI row) s0 C N (nI j) = some (.inl s') ∧ _
    have c1 : fX3_noted (nI i) (1 : Int32) N = some (nI a) := by rw [← h1]; exact noted_n (r := 1) (by omega)
    unfold fX1_mayMend_L27b
    rcases Nat.lt_or_ge j 8 with h | h
    · have hf := fits_n hi h (hz j h)
      rw [if_pos (lt8 h), nI_inc, c1]
      simp only [Option.bind_some]
      have go : ∃ j' s', j' < 8 - j ∧ (some (Sum.inl (nI (j + 1))) : Option (Int32 ⊕ (Unit ⊕ Int32))) = some (.inl s') ∧ ∃ j, j ≤ 8 ∧ j' = 8 - j ∧ s' = nI j := ⟨8 - (j + 1), _, by omega, rfl, j + 1, by omega, rfl, rfl⟩
      by_cases e1 : j = row
      · rw [if_pos (by rw [e1])]
        exact Or.inr go
      · rw [if_neg (nI_ne e1 (by omega) (by omega))]
        have fin : ∀ q : s0 = 0 ∨ j ≠ a, (∃ e, (Option.bind (fX1_fits (nI i) (nI j) C N) fun r_8 => if r_8 = (0 : Int32) then (some (Sum.inr (Sum.inr (0 : Int32))) : Option (Int32 ⊕ (Unit ⊕ Int32))) else some (Sum.inl (nI (j + 1)))) = some (.inr e) ∧ (e = .inl () ∨ (e = .inr 0 ∧ ∃ x, x < 8 ∧ x ≠ row ∧ (s0 = 0 ∨ x ≠ a) ∧ ¬ z x = C (8 * (i + 1) + x)))) ∨ ∃ j' s', j' < 8 - j ∧ (Option.bind (fX1_fits (nI i) (nI j) C N) fun r_8 => if r_8 = (0 : Int32) then (some (Sum.inr (Sum.inr (0 : Int32))) : Option (Int32 ⊕ (Unit ⊕ Int32))) else some (Sum.inl (nI (j + 1)))) = some (.inl s') ∧ ∃ j, j ≤ 8 ∧ j' = 8 - j ∧ s' = nI j := by
          intro q
          by_cases e3 : z j = C (8 * (i + 1) + j)
          · rw [hf.1 e3]
            exact Or.inr go
          · rw [hf.2 e3]
            exact Or.inl ⟨_, rfl, Or.inr ⟨rfl, j, h, e1, q, e3⟩⟩
        by_cases e2 : s0 = 0
        · rw [if_pos e2]
          exact fin (Or.inl e2)
        · rw [if_neg e2]
          by_cases e3 : j = a
          · rw [if_pos (by rw [e3])]
            exact Or.inr go
          · rw [if_neg (nI_ne e3 (by omega) (by omega))]
            exact fin (Or.inr e3)
    · left
      have : j = 8 := by omega
      subst this
      rw [if_neg (by decide)]
      exact ⟨_, rfl, Or.inl rfl⟩) KF 8 (0 : Int32) (KF_lt (by decide)) ⟨0, by omega, rfl, rfl⟩
theorem may_n {b : Nat} {N : Nat → Int32} {Cc : Nat → Int64} {Cn : Nat → Int32} {My : Nat → Int64} {Mg Mn : Nat → Int32} (h : CP b N Cc Cn My Mg Mn) {i t row : Nat} (hi : i + 1 < b) (nd : ¬ Dk Cc i) (ht : t < 2) (hr : row < 8) : fX1_mayMend (nI i) (nI (i + t)) (nI row) Cc Cn = some 1 ∨ (fX1_mayMend (nI i) (nI (i + t)) (nI row) Cc Cn = some 0 ∧ ∀ v, Fit v → ¬ RT (vp_updL Cc (8 * (i + t) + row) v) Cn i) := by
  have hb := h.2.1
  obtain ⟨k, a, p, d, b', c, hV, hb'⟩ := NoteOk_V8 (h.2.2.2.1 i hi)
  have hVc : NoteV Cn i k a p d b' c := NoteV_congr (fun j hj => (h.2.2.1 _ (by omega)).1) hV
  have hi48 : i < 48 := by omega
  have hk6 : k < 6 := by
    obtain ⟨-, -, -, -, -, -, -, hk⟩ := hVc
    omega
  have ha8 : a < 8 := hVc.2.2.2.2.1
  have hng : ∀ r, r < 8 → ¬ Cc (8 * i + r) = LOSTv := fun r hr q => nd (Or.inl ⟨r, hr, q⟩)
  have hC : ∀ r, r < 8 → Fit (Cc (8 * i + r)) := fun r hr => (nd_cell h (t := 0) hi nd (by omega) hr).2.1
  obtain ⟨z, -, -, w1, -, -⟩ := walk_both h hi hng (fun _ => 0)
  have B : ∀ s0 : Int32, (t = 1 ∨ s0 = 1 ∨ (s0 = 0 ∧ ((k = 2 ∨ k = 3 ∨ k = 4) → b' ≠ row))) → fX1_mayMend_B22 (nI i) (nI row) s0 Cc Cn = some 1 ∨ (fX1_mayMend_B22 (nI i) (nI row) s0 Cc Cn = some 0 ∧ ∀ v, Fit v → ¬ RT (vp_updL Cc (8 * (i + t) + row) v) Cn i) := by
    intro s0 hs
    obtain ⟨e, g1, g2⟩ := may_loop z hi48 hr ha8 hVc.2.1 w1 s0
    unfold fX1_mayMend_B22
    rw [g1]
    rcases g2 with rfl | ⟨rfl, x, hx, hxr, hxa, hne⟩
    · exact Or.inl rfl
    · right
      refine ⟨rfl, fun v hv hR => ?_⟩
      have hR2 := hR.2 x hx
      rw [updL_ne (show 8 * (i + 1) + x ≠ 8 * (i + t) + row by omega)] at hR2
      apply hne
      have hz := w1 x hx
      have t01 : t = 0 ∨ t = 1 := by omega
      rcases t01 with rfl | rfl
      · have hC' : ∀ r, r < 8 → Fit (vp_updL Cc (8 * (i + 0) + row) v (8 * i + r)) := by
          intro r hr
          by_cases e : 8 * i + r = 8 * (i + 0) + row
          · rw [e, updL_at]; exact hv
          · rw [updL_ne e]; exact hC r hr
        have hq : x = a → (k = 2 ∨ k = 3 ∨ k = 4) → b' ≠ row := by
          intro e k3
          rcases hs with q | rfl | ⟨-, q⟩
          · exact absurd q (by decide)
          · rcases hxa with q | q
            · exact absurd q (by decide)
            · exact absurd e q
          · exact q k3
        have hm := wval_mod (m := mI d p) (c := c) (f := fun r => (Cc (8 * i + r)).toInt) (g := fun r => (vp_updL Cc (8 * (i + 0) + row) v (8 * i + r)).toInt) (fun y hy hyr => by
          show (vp_updL Cc (8 * (i + 0) + row) v (8 * i + y)).toInt = (Cc (8 * i + y)).toInt
          rw [updL_ne (by omega)]) hb' hx hxr hk6 hq
        rw [walked_eq hi48 hVc hC hC' hx hm.1 hm.2, hz] at hR2
        exact Option.some.inj hR2
      · rw [CP_walk h hi hng (fun r hr => updL_ne (by omega)) hx, hz] at hR2
        exact Option.some.inj hR2
  unfold fX1_mayMend fX1_mayMend_B21
  have t01 : t = 0 ∨ t = 1 := by omega
  rcases t01 with rfl | rfl
  · obtain ⟨s, g1, g2⟩ := acts_n hi48 hVc hr
    rw [if_pos (by rfl), g1]
    simp only [Option.bind_some]
    rcases g2 with rfl | ⟨rfl, g2⟩
    · rw [i10]
      exact B 1 (Or.inr (Or.inl rfl))
    · rw [if_pos rfl]
      exact B 0 (Or.inr (Or.inr ⟨rfl, g2⟩))
  · rw [if_neg (nI_ne (by omega) (by omega) (by omega))]
    exact B 0 (Or.inl rfl)
