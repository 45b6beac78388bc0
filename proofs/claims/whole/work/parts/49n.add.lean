/-! ===== add ===== -/
def hiv (v : Int64) (q : Nat) : Nat := v.toInt.natAbs / 10 ^ q * 10 ^ q
theorem hiv_le (v : Int64) (q : Nat) : hiv v q ≤ v.toInt.natAbs := Nat.div_mul_le_self _ _
theorem hiv_12 {v : Int64} (h : Fit v) : hiv v 12 = 0 := by
  have h1 := fit_abs.mp h
  unfold hiv
  rw [Nat.div_eq_of_lt (show v.toInt.natAbs < 10 ^ 12 from h1), Nat.zero_mul]
theorem hiv_0 (v : Int64) : hiv v 0 = v.toInt.natAbs := by
  unfold hiv
  rw [Nat.pow_zero, Nat.div_one, Nat.mul_one]
theorem hiv_step (v : Int64) (q : Nat) : hiv v q = hiv v (q + 1) + dgt v q * 10 ^ q := by
  unfold hiv dgt
  have e : v.toInt.natAbs / 10 ^ (q + 1) = v.toInt.natAbs / 10 ^ q / 10 := by rw [Nat.pow_succ, Nat.div_div_eq_div_mul]
  rw [e]
  generalize v.toInt.natAbs / 10 ^ q = y
  have h := Nat.div_add_mod y 10
  have e2 : y / 10 * 10 ^ (q + 1) = 10 * (y / 10) * 10 ^ q := by rw [Nat.pow_succ, Nat.mul_comm (10 ^ q) 10, ← Nat.mul_assoc, Nat.mul_comm 10 (y / 10)]
  rw [e2, ← Nat.add_mul, h]
def sdg (v : Int64) (q : Nat) : Int32 := if v < (0 : Int64) then -nI (dgt v q) else nI (dgt v q)
def sg (v : Int64) : Int := if v < (0 : Int64) then -1 else 1
theorem sg_cases (v : Int64) : (v.toInt < 0 ∧ sg v = -1 ∧ v < (0 : Int64)) ∨ (0 ≤ v.toInt ∧ sg v = 1 ∧ ¬ v < (0 : Int64)) := by
  have z : (0 : Int64).toInt = 0 := rfl
  unfold sg
  by_cases c : v < (0 : Int64)
  · left
    rw [if_pos c]
    rw [Int64.lt_iff_toInt_lt, z] at c
    exact ⟨c, rfl, by rw [Int64.lt_iff_toInt_lt, z]; exact c⟩
  · right
    rw [if_neg c]
    rw [Int64.lt_iff_toInt_lt, z] at c
    exact ⟨by omega, rfl, by rw [Int64.lt_iff_toInt_lt, z]; exact c⟩
theorem sdg_toInt (v : Int64) (q : Nat) : (sdg v q).toInt = sg v * (dgt v q : Int) := by
  have hg := dgt_lt v q
  have e : (nI (dgt v q)).toInt = (dgt v q : Int) := nI_toInt (by omega)
  unfold sdg
  rcases sg_cases v with ⟨-, h2, h3⟩ | ⟨-, h2, h3⟩
  · rw [if_pos h3, h2, t32_neg (by rw [e]; omega), e]; omega
  · rw [if_neg h3, h2, e]; omega
theorem neg_z {g : Nat} (hg : g < 10) : (-nI g = (0 : Int32)) ↔ g = 0 := by
  have e : (nI g).toInt = (g : Int) := nI_toInt (by omega)
  have e2 : (-nI g).toInt = -(g : Int) := by rw [t32_neg (by rw [e]; omega), e]
  constructor
  · intro h
    have h2 : (-nI g).toInt = 0 := by rw [h]; rfl
    omega
  · rintro rfl
    rfl
theorem add8_body (x1 x2 : Int32) {v : Int64} {q : Nat} (hv : Fit v) (hq : q < 12) (Xb : Int32) (Xc : Nat → Int64) (Xn : Nat → Int32) : fX7_addRows_L21b x1 x2 v (nI q) Xb Xc Xn = if dgt v q = 0 then some (.inl (nI q + (-1 : Int32), Xb, Xc, Xn)) else bn3 (fX3_go (0 : Int32) x1 (nI q) (sdg v q) x2 (-6 : Int32) Xb Xc Xn) (fun w_11 w_12 w_13 => some (.inl (nI q + (-1 : Int32), w_11, w_12, w_13))) := by
  have hg := dgt_lt v q
  unfold fX7_addRows_L21b sdg
  rw [if_neg (nI_not_neg (by omega)), digit8 hv hq]
  simp only [Option.bind_some]
  by_cases c : dgt v q = 0
  · rw [if_pos c, if_pos ((nI_z (by omega)).mpr c)]
  · rw [if_neg c, if_neg (fun e => c ((nI_z (by omega)).mp e))]
    by_cases d : v < (0 : Int64)
    · rw [if_pos d, if_pos d]
    · rw [if_neg d, if_neg d]
theorem add9_body {A : Nat} (hA : A < 8) (x2 : Int32) {v : Int64} {q : Nat} (hv : Fit v) (hq : q < 12) (st isB : Int32) (hand nb : Nat → Int64) (nn : Nat → Int32) : fX9_add_L31b (nI A) x2 v (nI q) st isB hand nb nn = if dgt v q = 0 then some (.inl (nI q + (-1 : Int32), st, isB, hand, nb, nn)) else bn4 (fX9_step (0 : Int32) (nI A) (nI q) (sdg v q) x2 (-6 : Int32) st isB (vp_updL hand A (hand A + (sdg v q).toInt64 * tensF q)) nb nn) (fun w_22 w_23 w_24 w_25 => some (.inl (nI q + (-1 : Int32), w_22, w_23, vp_updL hand A (hand A + (sdg v q).toInt64 * tensF q), w_24, w_25))) := by
  have hg := dgt_lt v q
  unfold fX9_add_L31b sdg
  rw [if_neg (nI_not_neg (by omega)), digit9 hv hq, rdJ_n hA (by decide), ten9 q hq]
  simp only [Option.bind_some]
  by_cases d : v < (0 : Int64)
  · rw [if_pos d, if_pos d]
    by_cases c : dgt v q = 0
    · rw [if_pos c, if_pos ((neg_z hg).mpr c)]
    · rw [if_neg c, if_neg (fun e => c ((neg_z hg).mp e)), wrJ_n _ hA (by decide)]
      rfl
  · rw [if_neg d, if_neg d]
    by_cases c : dgt v q = 0
    · rw [if_pos c, if_pos ((nI_z (by omega)).mpr c)]
    · rw [if_neg c, if_neg (fun e => c ((nI_z (by omega)).mp e)), wrJ_n _ hA (by decide)]
      rfl
theorem add_val {v x : Int64} {q : Nat} {a : Int} (hv : Fit v) (hq : q < 12) (ha : a.natAbs < 1000000000000) (hx : x.toInt = a + sg v * (hiv v (q + 1) : Int)) : (x + (sdg v q).toInt64 * tensF q).toInt = a + sg v * (hiv v q : Int) ∧ a + sg v * (hiv v q : Int) = x.toInt + mI (sg v * (dgt v q : Int)) q := by
  have h1 := hiv_step v q
  have h2 := hiv_le v q
  have h3 := fit_abs.mp hv
  have hT : (tensF q).toInt = ((10 ^ q : Nat) : Int) := tens_toInt q hq
  have key : ∃ w : Int, ((dgt v q * 10 ^ q : Nat) : Int) = w ∧ (dgt v q : Int) * ((10 ^ q : Nat) : Int) = w ∧ 0 ≤ w := ⟨_, rfl, (Int.natCast_mul _ _).symm, Int.natCast_nonneg _⟩
  obtain ⟨w, k1, k2, k3⟩ := key
  have h1' : (hiv v q : Int) = (hiv v (q + 1) : Int) + w := by rw [← k1]; omega
  have hm : mI (sg v * (dgt v q : Int)) q = sg v * w := by
    unfold mI
    rw [Int.mul_assoc, k2]
  have hp : (sdg v q).toInt64.toInt * (tensF q).toInt = sg v * w := by
    rw [t32_to64, sdg_toInt, hT, Int.mul_assoc, k2]
  rw [hm, hx, h1']
  rcases sg_cases v with ⟨-, s1, -⟩ | ⟨-, s1, -⟩
  · rw [s1] at hp ⊢
    refine ⟨?_, by omega⟩
    rw [s1] at hx
    rw [t64_add] <;> rw [t64_mul (by rw [hp]; omega) (by rw [hp]; omega), hp, hx] <;> omega
  · rw [s1] at hp ⊢
    refine ⟨?_, by omega⟩
    rw [s1] at hx
    rw [t64_add] <;> rw [t64_mul (by rw [hp]; omega) (by rw [hp]; omega), hp, hx] <;> omega
/-- the reference's loop, in any case -/
theorem add9_run {A : Nat} (hA : A < 8) (x2 : Int32) {v : Int64} (hv : Fit v) (f : Nat → Int64) (hf : ∀ r, r < 8 → Fit (f r)) (hno : ¬ Fit (f A + v)) (hand nb : Nat → Int64) (nn : Nat → Int32) (hh : ∀ r, r < 8 → hand r = f r) : ∃ st' hand' nb' nn', itr (fX9_add_L31 (nI A) x2 v) KF ((11 : Int32), (0 : Int32), (0 : Int32), hand, nb, nn) = some (st', 1, hand', nb', nn') := by
  have ha := fit_abs.mp (hf A hA)
  have hva := fit_abs.mp hv
  have hsum : (f A + v).toInt = (f A).toInt + v.toInt := by rw [t64_add] <;> omega
  obtain ⟨e, h1, h2⟩ := itr_ex (f := fX9_add_L31 (nI A) x2 v) (fun m s => ∃ q j isB hand nb nn, q ≤ 12 ∧ m = q ∧ j ≤ 12 - q ∧ (isB = 0 ∨ isB = 1) ∧ s = (dn q, nI j, isB, hand, nb, nn) ∧ (hand A).toInt = (f A).toInt + sg v * (hiv v q : Int) ∧ (isB = 0 → Fit (hand A)) ∧ ∀ r, r < 8 → r ≠ A → Fit (hand r)) (fun e => e.2.1 = 1) (fun m s hI => by
    obtain ⟨q, j, isB, hand, nb, nn, hq, rfl, hj, hB, rfl, hval, hfit, hoth⟩ := hI
    show (∃ e, fX9_add_L31b (nI A) x2 v (dn m) (nI j) isB hand nb nn = some (.inr e) ∧ _) ∨ ∃ j' s', j' < m ∧ fX9_add_L31b (nI A) x2 v (dn m) (nI j) isB hand nb nn = some (.inl s') ∧ _
    rcases m with _ | q
    · left
      unfold fX9_add_L31b
      rw [if_pos (show dn 0 < (0 : Int32) by decide)]
      refine ⟨_, rfl, ?_⟩
      rcases hB with rfl | rfl
      · exfalso
        have h1 := fit_abs.mp (hfit rfl)
        apply hno
        rw [fit_abs, hsum]
        rw [hiv_0] at hval
        rcases sg_cases v with ⟨s0, s1, -⟩ | ⟨s0, s1, -⟩ <;> rw [s1] at hval <;> omega
      · rfl
    · right
      have hq12 : q < 12 := by omega
      rw [dn_s, add9_body hA x2 hv hq12]
      by_cases c : dgt v q = 0
      · have hs : hiv v q = hiv v (q + 1) := by
          have := hiv_step v q
          rw [c, Nat.zero_mul] at this
          omega
        rw [if_pos c]
        refine ⟨q, _, by omega, rfl, q, j, isB, hand, nb, nn, by omega, rfl, by omega, hB, rfl, ?_, hfit, hoth⟩
        rw [hval, hs]
      · rw [if_neg c]
        obtain ⟨w1, w2⟩ := add_val hv hq12 ha hval
        have hb1 := hiv_le v q
        have hA2 : (vp_updL hand A (hand A + (sdg v q).toInt64 * tensF q) A).toInt = (f A).toInt + sg v * (hiv v q : Int) := by rw [updL_at, w1]
        have hbig : ((f A).toInt + sg v * (hiv v q : Int)).natAbs < 2000000000000 := by
          rcases sg_cases v with ⟨-, s1, -⟩ | ⟨-, s1, -⟩ <;> rw [s1] <;> omega
        have hoth2 : ∀ r, r < 8 → r ≠ A → Fit (vp_updL hand A (hand A + (sdg v q).toInt64 * tensF q) r) := fun r hr hrA => by rw [updL_ne hrA]; exact hoth r hr hrA
        obtain ⟨isB', nb', nn', g1, g2, -⟩ := step9_n 0 (nI A) (nI q) (sdg v q) x2 (-6) (j := j) (by omega) isB hB (vp_updL hand A (hand A + (sdg v q).toInt64 * tensF q)) nb (fun r hr => by
          by_cases e : r = A
          · subst e; rw [hA2]; omega
          · have := fit_abs.mp (hoth2 r hr e); omega) nn
        rw [g1]
        simp only [bn4, Option.bind_some]
        refine ⟨q, _, by omega, rfl, q, j + 1, isB', _, nb', nn', by omega, rfl, by omega, ?_, rfl, hA2, ?_, hoth2⟩
        · rcases g2 with ⟨q', -⟩ | ⟨q', -⟩
          · exact Or.inl q'
          · exact Or.inr q'
        · intro e0
          rcases g2 with ⟨-, -, q'⟩ | ⟨q', -⟩
          · exact q' A hA
          · rw [q'] at e0; exact absurd e0 (by decide)) KF 12 ((11 : Int32), (0 : Int32), (0 : Int32), hand, nb, nn) (KF_lt (by decide)) ⟨12, 0, 0, hand, nb, nn, by omega, rfl, by omega, Or.inl rfl, by rw [← dn_12]; rfl, by rw [hiv_12 hv, hh A hA]; omega, fun _ => by rw [hh A hA]; exact hf A hA, fun r hr _ => by rw [hh r hr]; exact hf r hr⟩
  obtain ⟨e1, e2, e3, e4, e5⟩ := e
  dsimp only at h2
  subst h2
  exact ⟨e1, e3, e4, e5, h1⟩
theorem add_run {A B : Nat} (hA : A < 8) {v : Int64} (hv : Fit v) (f : Nat → Int64) (hf : ∀ r, r < 8 → Fit (f r)) (hok : Fit (f A + v)) {Xb Xc Xn st isB hand nb nn} (h : CI 0 Xb Xc Xn st isB hand nb nn) (hh : ∀ r, r < 8 → hand r = f r) : ∃ j Xb' Xc' Xn' st' isB' hand' nb' nn', itr (fX7_addRows_L21 (nI A) (nI B) v) KF ((11 : Int32), Xb, Xc, Xn) = some (Xb', Xc', Xn') ∧ itr (fX9_add_L31 (nI A) (nI B) v) KF ((11 : Int32), st, isB, hand, nb, nn) = some (st', isB', hand', nb', nn') ∧ CI j Xb' Xc' Xn' st' isB' hand' nb' nn' := by
  have ha := fit_abs.mp (hf A hA)
  have hva := fit_abs.mp hv
  have hsum : (f A + v).toInt = (f A).toInt + v.toInt := by rw [t64_add] <;> omega
  have hs := fit_abs.mp hok
  rw [hsum] at hs
  obtain ⟨e, e', h1, h2, h3⟩ := itr_rel (f := fX7_addRows_L21 (nI A) (nI B) v) (g := fX9_add_L31 (nI A) (nI B) v)
    (fun m s t => ∃ q j Xb Xc Xn st isB hand nb nn, q ≤ 12 ∧ m = q ∧ j ≤ 12 - q ∧ s = (dn q, Xb, Xc, Xn) ∧ t = (dn q, st, isB, hand, nb, nn) ∧ CI j Xb Xc Xn st isB hand nb nn ∧ (hand A).toInt = (f A).toInt + sg v * (hiv v q : Int) ∧ ∀ r, r < 8 → r ≠ A → hand r = f r)
    (fun e e' => ∃ j Xb Xc Xn st isB hand nb nn, e = (Xb, Xc, Xn) ∧ e' = (st, isB, hand, nb, nn) ∧ CI j Xb Xc Xn st isB hand nb nn)
    (fun m s t hI => by
      obtain ⟨q, j, Xb, Xc, Xn, st, isB, hand, nb, nn, hq, rfl, hj, rfl, rfl, hC, hval, hoth⟩ := hI
      show (∃ e e', fX7_addRows_L21b (nI A) (nI B) v (dn m) Xb Xc Xn = some (.inr e) ∧ fX9_add_L31b (nI A) (nI B) v (dn m) st isB hand nb nn = some (.inr e') ∧ _) ∨ ∃ k s' t', k < m ∧ fX7_addRows_L21b (nI A) (nI B) v (dn m) Xb Xc Xn = some (.inl s') ∧ fX9_add_L31b (nI A) (nI B) v (dn m) st isB hand nb nn = some (.inl t') ∧ _
      rcases m with _ | q
      · left
        unfold fX7_addRows_L21b fX9_add_L31b
        rw [if_pos dn_0, if_pos dn_0]
        exact ⟨_, _, rfl, rfl, j, Xb, Xc, Xn, st, isB, hand, nb, nn, rfl, rfl, hC⟩
      · right
        have hq12 : q < 12 := by omega
        rw [dn_s, add8_body _ _ hv hq12, add9_body hA _ hv hq12]
        by_cases c : dgt v q = 0
        · have hs : hiv v q = hiv v (q + 1) := by
            have := hiv_step v q
            rw [c, Nat.zero_mul] at this
            omega
          rw [if_pos c, if_pos c]
          exact ⟨q, _, _, by omega, rfl, rfl, q, j, Xb, Xc, Xn, st, isB, hand, nb, nn, by omega, rfl, by omega, rfl, rfl, hC, by rw [hval, hs], hoth⟩
        · rw [if_neg c, if_neg c]
          obtain ⟨w1, w2⟩ := add_val hv hq12 ha hval
          have hb1 := hiv_le v q
          have hA2 : (vp_updL hand A (hand A + (sdg v q).toInt64 * tensF q) A).toInt = (f A).toInt + sg v * (hiv v q : Int) := by rw [updL_at, w1]
          have hin : ((f A).toInt + sg v * (hiv v q : Int)).natAbs < 1000000000000 := by
            rcases sg_cases v with ⟨s0, s1, -⟩ | ⟨s0, s1, -⟩ <;> rw [s1] <;> omega
          have hoth2 : ∀ r, r < 8 → r ≠ A → vp_updL hand A (hand A + (sdg v q).toInt64 * tensF q) r = hand r := fun r hr hrA => by rw [updL_ne hrA]
          have hg := dgt_lt v q
          have hd := sdg_toInt v q
          have hd9 : (sg v * (dgt v q : Int)).natAbs ≤ 81 := by
            rcases sg_cases v with ⟨s0, s1, -⟩ | ⟨s0, s1, -⟩ <;> rw [s1] <;> omega
          obtain ⟨Xb', Xc', Xn', st', isB', nb', nn', g1, g2, g3⟩ := CI_step 0 (nI A) (nI q) (sdg v q) (nI B) (-6) (k := 0) (a := A) (p := q) (d := sg v * (dgt v q : Int)) (b := 0) (c := 0) hC (by omega) (fun N' n0 n1 n2 n3 n4 n5 => ⟨n0, n1, n2, by rw [n3]; exact hd, hA, by omega, hd9, Or.inl rfl⟩) (by decide) (vp_updL hand A (hand A + (sdg v q).toInt64 * tensF q)) (fun r hr => by
            have ew : wval 0 A (mI (sg v * (dgt v q : Int)) q) 0 0 (fun r => (hand r).toInt) r = if r = A then (hand r).toInt + mI (sg v * (dgt v q : Int)) q else (hand r).toInt := rfl
            rw [ew]
            by_cases e : r = A
            · subst e
              rw [if_pos rfl]
              exact ⟨fit_abs.mpr (by rw [hA2]; exact hin), by rw [hA2, w2], wok_of (Or.inr (Or.inl rfl))⟩
            · rw [if_neg e, hoth2 r hr e]
              exact ⟨by rw [hoth r hr e]; exact hf r hr, rfl, wok_of (Or.inl e)⟩)
          rw [g1, g2]
          simp only [bn3, bn4, Option.bind_some]
          exact ⟨q, _, _, by omega, rfl, rfl, q, j + 1, Xb', Xc', Xn', st', isB', _, nb', nn', by omega, rfl, by omega, rfl, rfl, g3, hA2, fun r hr e => by rw [hoth2 r hr e]; exact hoth r hr e⟩) KF 12 ((11 : Int32), Xb, Xc, Xn) ((11 : Int32), st, isB, hand, nb, nn) (KF_lt (by decide)) ⟨12, 0, Xb, Xc, Xn, st, isB, hand, nb, nn, by omega, rfl, by omega, by rw [← dn_12], by rw [← dn_12], h, by rw [hiv_12 hv, hh A hA]; omega, fun r hr _ => hh r hr⟩
  obtain ⟨j, Xb', Xc', Xn', st', isB', hand', nb', nn', rfl, rfl, h3⟩ := h3
  exact ⟨j, Xb', Xc', Xn', st', isB', hand', nb', nn', h1, h2, h3⟩
