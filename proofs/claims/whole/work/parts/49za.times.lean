/-! ===== times: numbers ===== -/
def tv (x y : Int64) (p q : Nat) : Nat := hiv x (p + 1) * y.toInt.natAbs + dgt x p * 10 ^ p * hiv y q
theorem tv_12 {x y : Int64} (hy : Fit y) (p : Nat) : tv x y p 12 = hiv x (p + 1) * y.toInt.natAbs := by
  unfold tv
  rw [hiv_12 hy, Nat.mul_zero, Nat.add_zero]
theorem tv_0 (x y : Int64) (p : Nat) : tv x y p 0 = hiv x p * y.toInt.natAbs := by
  unfold tv
  rw [hiv_0, ← Nat.add_mul, ← hiv_step]
theorem tv_step (x y : Int64) (p q : Nat) : tv x y p q = tv x y p (q + 1) + dgt x p * dgt y q * 10 ^ (p + q) := by
  have e : dgt x p * 10 ^ p * (dgt y q * 10 ^ q) = dgt x p * dgt y q * 10 ^ (p + q) := by
    rw [Nat.pow_add, Nat.mul_mul_mul_comm]
  unfold tv
  rw [← e, hiv_step y q, Nat.mul_add (dgt x p * 10 ^ p), Nat.add_assoc]
theorem tv_le (x y : Int64) (p q : Nat) : tv x y p q ≤ x.toInt.natAbs * y.toInt.natAbs := by
  have h1 : dgt x p * 10 ^ p * hiv y q ≤ dgt x p * 10 ^ p * y.toInt.natAbs := Nat.mul_le_mul_left _ (hiv_le y q)
  have h2 : hiv x p * y.toInt.natAbs ≤ x.toInt.natAbs * y.toInt.natAbs := Nat.mul_le_mul_right _ (hiv_le x p)
  have h3 := tv_0 x y p
  unfold tv at h3 ⊢
  rw [hiv_0] at h3
  omega
theorem dgt_pow {v : Int64} {p : Nat} (h : dgt v p ≠ 0) : 10 ^ p ≤ v.toInt.natAbs := by
  have h1 := hiv_step v p
  have h2 := hiv_le v p
  have h3 : 1 * 10 ^ p ≤ dgt v p * 10 ^ p := Nat.mul_le_mul_right _ (by omega)
  omega
theorem pq_lt {x y : Int64} {p q : Nat} (hd : dgt x p * dgt y q ≠ 0) (h : x.toInt.natAbs * y.toInt.natAbs < 1000000000000) : p + q < 12 := by
  have h1 : dgt x p ≠ 0 := fun e => hd (by rw [e, Nat.zero_mul])
  have h2 : dgt y q ≠ 0 := fun e => hd (by rw [e, Nat.mul_zero])
  have h3 : 10 ^ p * 10 ^ q ≤ x.toInt.natAbs * y.toInt.natAbs := Nat.mul_le_mul (dgt_pow h1) (dgt_pow h2)
  rw [← Nat.pow_add] at h3
  rcases Nat.lt_or_ge (p + q) 12 with c | c
  · exact c
  · have h4 : (10 : Nat) ^ 12 ≤ 10 ^ (p + q) := Nat.pow_le_pow_right (by decide) c
    have e12 : (10 : Nat) ^ 12 = 1000000000000 := rfl
    omega
theorem top_n (v : Int64) : ∀ n, ∃ M, M ≤ n ∧ (∀ p, p < n → dgt v p ≠ 0 → p < M) ∧ (M = 0 ∨ 10 ^ (M - 1) ≤ v.toInt.natAbs) := by
  intro n
  induction n with
  | zero => exact ⟨0, by omega, fun p hp => absurd hp (by omega), Or.inl rfl⟩
  | succ n ih =>
    by_cases c : dgt v n = 0
    · obtain ⟨M, h1, h2, h3⟩ := ih
      refine ⟨M, by omega, fun p hp hd => ?_, h3⟩
      by_cases e : p = n
      · subst e; exact absurd c hd
      · exact h2 p (by omega) hd
    · exact ⟨n + 1, by omega, fun p hp _ => hp, Or.inr (dgt_pow c)⟩
theorem mn42 : ∀ M, M < 13 → ∀ N, N < 13 → M + N ≤ 13 → M * N ≤ 42 := by decide
theorem mn_le {x y : Int64} (h : x.toInt.natAbs * y.toInt.natAbs < 1000000000000) {M N : Nat} (hM : M ≤ 12) (hN : N ≤ 12) (h1 : M = 0 ∨ 10 ^ (M - 1) ≤ x.toInt.natAbs) (h2 : N = 0 ∨ 10 ^ (N - 1) ≤ y.toInt.natAbs) : M * N ≤ 42 := by
  by_cases c1 : M = 0
  · rw [c1, Nat.zero_mul]; omega
  · by_cases c2 : N = 0
    · rw [c2, Nat.mul_zero]; omega
    · have q1 : 10 ^ (M - 1) ≤ x.toInt.natAbs := by
        rcases h1 with e | e
        · exact absurd e c1
        · exact e
      have q2 : 10 ^ (N - 1) ≤ y.toInt.natAbs := by
        rcases h2 with e | e
        · exact absurd e c2
        · exact e
      have h3 : 10 ^ (M - 1) * 10 ^ (N - 1) ≤ x.toInt.natAbs * y.toInt.natAbs := Nat.mul_le_mul q1 q2
      rw [← Nat.pow_add] at h3
      apply mn42 M (by omega) N (by omega)
      rcases Nat.lt_or_ge (M - 1 + (N - 1)) 12 with c | c
      · omega
      · have h4 : (10 : Nat) ^ 12 ≤ 10 ^ (M - 1 + (N - 1)) := Nat.pow_le_pow_right (by decide) c
        have e12 : (10 : Nat) ^ 12 = 1000000000000 := rfl
        omega
theorem neg1_n {d : Nat} (hd : d ≤ 81) : (-1 : Int32) * nI d = -(nI d) := by
  have e : (nI d).toInt = (d : Int) := nI_toInt (by omega)
  have e1 : (-1 : Int32).toInt = -1 := rfl
  apply Int32.toInt_inj.mp
  rw [t32_mul (by rw [e1, e]; omega) (by rw [e1, e]; omega), e1, t32_neg (a := nI d) (by rw [e]; omega), e]
  omega
theorem S_toInt {S : Int32} (hS : S = 1 ∨ S = -1) : S.toInt = 1 ∨ S.toInt = -1 := by
  rcases hS with rfl | rfl
  · exact Or.inl rfl
  · exact Or.inr rfl
theorem Sd_toInt {S : Int32} (hS : S = 1 ∨ S = -1) {d : Nat} (hd : d ≤ 81) : (S * nI d).toInt = S.toInt * (d : Int) := by
  have e : (nI d).toInt = (d : Int) := nI_toInt (by omega)
  have e1 := S_toInt hS
  rcases e1 with e1 | e1 <;> rw [t32_mul (by rw [e1, e]; omega) (by rw [e1, e]; omega), e]
theorem tmul_val {S : Int32} (hS : S = 1 ∨ S = -1) {d e : Nat} (hd : d ≤ 81) (he : e < 12) {h : Int64} {V W : Nat} (hh : h.toInt = S.toInt * (V : Nat)) (hW : W = V + d * 10 ^ e) (hb : W < 10000000000000) : (h + (S * nI d).toInt64 * tensF e).toInt = S.toInt * (W : Nat) ∧ S.toInt * (W : Nat) = h.toInt + mI (S.toInt * (d : Int)) e := by
  have h1 := Sd_toInt hS hd
  have h2 := S_toInt hS
  have hm : mI (S.toInt * (d : Int)) e = S.toInt * ((d * 10 ^ e : Nat) : Int) := by
    unfold mI
    rw [Int.mul_assoc, Int.natCast_mul]
  have hab : (S.toInt * (d : Int)).natAbs ≤ 81 := by rcases h2 with q | q <;> rw [q] <;> omega
  obtain ⟨m1, m2⟩ := more_ok (p := e) h1 hab he
  have m1' : ((S * nI d).toInt64 * tensF e).toInt = S.toInt * ((d * 10 ^ e : Nat) : Int) := by rw [m1]; exact hm
  have hsum : S.toInt * (W : Nat) = S.toInt * (V : Nat) + S.toInt * ((d * 10 ^ e : Nat) : Int) := by
    rcases h2 with q | q <;> rw [q] <;> omega
  constructor
  · rw [t64_add] <;> rw [m1', hh] <;> rcases h2 with q | q <;> rw [q] <;> omega
  · rw [hm, hh, hsum]
theorem mul8_body {A B p q : Nat} (hA : A < 8) (hB : B < 8) (hp : p < 12) (hq : q < 12) {Xr : Nat → Int64} {x y : Int64} (hx : Fit x) (hy : Fit y) (hXA : Xr A = x) (hXB : Xr B = y) {Lf S : Int32} (hS : Lf = 0 ∧ S = 1 ∨ Lf = 1 ∧ S = -1) (c : Int32) (Xb : Int32) (Xc : Nat → Int64) (Xn : Nat → Int32) : fX7_multiplyRows_L58b (nI A) (nI B) c Lf (nI p) Xr (nI q) Xb Xc Xn = if dgt x p * dgt y q = 0 then some (.inl (nI q + (-1 : Int32), Xb, Xc, Xn)) else bn3 (fX3_go (1 : Int32) c (nI (p + q)) (S * nI (dgt x p * dgt y q)) (-6 : Int32) (-6 : Int32) Xb Xc Xn) (fun w_24 w_25 w_26 => some (.inl (nI q + (-1 : Int32), w_24, w_25, w_26))) := by
  have g1 := dgt_lt x p
  have g2 := dgt_lt y q
  have g3 : dgt x p * dgt y q ≤ 9 * 9 := Nat.mul_le_mul (by omega) (by omega)
  unfold fX7_multiplyRows_L58b
  rw [if_neg (nI_not_neg (by omega)), held_n hA, held_n hB, hXA, hXB]
  simp only [Option.bind_some]
  rw [digit8 hx hp, digit8 hy hq]
  simp only [Option.bind_some]
  rw [nI_mul, nI_add]
  generalize dgt x p * dgt y q = d at g3 ⊢
  by_cases c : d = 0
  · rw [if_pos c, if_pos ((nI_z (by omega)).mpr c)]
  · rw [if_neg c, if_neg (fun e => c ((nI_z (by omega)).mp e))]
    rcases hS with ⟨rfl, rfl⟩ | ⟨rfl, rfl⟩
    · rw [if_pos rfl, Int32.one_mul]
    · rw [if_neg (by decide), neg1_n g3]
theorem mul9_body {A B C p q : Nat} (hA : A < 8) (hB : B < 8) (hC : C < 8) (hp : p < 12) (hq : q < 12) {Mr : Nat → Int64} {x y : Int64} (hx : Fit x) (hy : Fit y) (hMA : Mr A = x) (hMB : Mr B = y) (S : Int32) (st : Int32) (hand nb : Nat → Int64) (nn : Nat → Int32) : fX9_times_L112b (nI A) (nI B) (nI C) S (nI p) Mr (nI q) st 0 hand nb nn = if dgt x p * dgt y q = 0 then some (.inl (nI q + (-1 : Int32), st, 0, hand, nb, nn)) else bn4 (fX9_step (1 : Int32) (nI C) (nI (p + q)) (S * nI (dgt x p * dgt y q)) (-6 : Int32) (-6 : Int32) st 0 (vp_updL hand C (if 11 < p + q then (1000000000000 : Int64) else hand C + (S * nI (dgt x p * dgt y q)).toInt64 * tensF (p + q))) nb nn) (fun w_51 w_52 w_53 w_54 => some (.inl (nI q + (-1 : Int32), w_51, w_52, vp_updL hand C (if 11 < p + q then (1000000000000 : Int64) else hand C + (S * nI (dgt x p * dgt y q)).toInt64 * tensF (p + q)), w_53, w_54))) := by
  have g1 := dgt_lt x p
  have g2 := dgt_lt y q
  have g3 : dgt x p * dgt y q ≤ 9 * 9 := Nat.mul_le_mul (by omega) (by omega)
  unfold fX9_times_L112b
  rw [if_neg (nI_not_neg (by omega)), if_pos rfl, rdJ_n hA (by decide), rdJ_n hB (by decide), hMA, hMB]
  simp only [Option.bind_some]
  rw [digit9 hx hp, digit9 hy hq]
  simp only [Option.bind_some]
  rw [nI_mul, nI_add]
  generalize dgt x p * dgt y q = d at g3 ⊢
  by_cases c : d = 0
  · rw [if_pos c, if_pos ((nI_z (by omega)).mpr c)]
  · rw [if_neg c, if_neg (fun e => c ((nI_z (by omega)).mp e))]
    by_cases k : 11 < p + q
    · rw [if_pos (show (11 : Int32) < nI (p + q) from nI_lt (a := 11) k (by omega)), wrJ_n _ hC (by decide), if_pos k]
      simp only [Option.bind_some]
    · rw [if_neg (show ¬ (11 : Int32) < nI (p + q) from nI_nlt (a := 11) (by omega) (by omega)), rdJ_n hC (by decide), ten9 (p + q) (by omega), if_neg k]
      simp only [Option.bind_some]
      rw [wrJ_n _ hC (by decide)]
      simp only [Option.bind_some]
