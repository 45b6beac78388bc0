/-! ===== clearing: the reference's determinant, run ===== -/
theorem seen_or : ∀ a, a < 16 → ∀ v, v < 4 → (nI a ||| ((1 : Int32) <<< (nI v &&& (31 : Int32)))) = nI (a ||| 2 ^ v) := by decide +kernel
theorem seen_lt : ∀ a, a < 16 → ∀ v, v < 4 → (a ||| 2 ^ v) < 16 := by decide +kernel
theorem seen_all : ∀ n, n < 5 → (((1 : Int32) <<< (nI n &&& (31 : Int32))) - (1 : Int32)) = nI (2 ^ n - 1) := by decide +kernel
theorem rmI_n {a b : Nat} (ha : a < 2 ^ 31) (hb : b < 2 ^ 31) (h0 : 0 < b) : rmI (nI a) (nI b) = some (nI (a % b)) := by
  have e : (nI a % nI b) = nI (a % b) := by
    apply nI_of_toInt
    rw [t32_mod (by rw [nI_toInt ha]; exact Int.natCast_nonneg _), nI_toInt ha, nI_toInt hb]
    rfl
  unfold rmI
  rw [if_neg (fun q => by have := (nI_z hb).mp q; omega), e]
theorem dvI_n {a b : Nat} (ha : a < 2 ^ 31) (hb : b < 2 ^ 31) (h0 : 0 < b) : dvI (nI a) (nI b) = some (nI (a / b)) := by
  have e : (nI a / nI b) = nI (a / b) := by
    apply nI_of_toInt
    rw [t32_div (by rw [nI_toInt ha]; exact Int.natCast_nonneg _) (by rw [nI_toInt hb]; omega), nI_toInt ha, nI_toInt hb]
    rfl
  unfold dvI
  rw [if_neg (fun q => by have := (nI_z hb).mp q; omega), e]
theorem dOrd_lt {n code i : Nat} (hn : 0 < n) : dOrd n code i < n := Nat.mod_lt _ hn
theorem dSeen_lt {n code : Nat} (hn1 : 0 < n) (hn : n ≤ 4) : ∀ i, dSeen n code i < 16 := by
  intro i
  induction i with
  | zero => show (0 : Nat) < 16; omega
  | succ i ih =>
    have := dOrd_lt (code := code) (i := i) hn1
    exact seen_lt _ ih _ (by omega)
theorem ord_n {n code : Nat} (hn1 : 1 ≤ n) (hn : n ≤ 4) (hc : code < 256) (x1 : Int32) (x2 : Int64) (x5 : Int32) (od : Nat → Int32) : ∃ od', itr (fX9_determinant_L64 x1 x2 (nI n) x5 (nI code)) KF (nI code, (0 : Int32), (0 : Int32), od) = some (nI (dSeen n code n), od') ∧ ∀ i, i < n → od' i = nI (dOrd n code i) := by
  obtain ⟨e, h1, h2⟩ := itr_ex (f := fX9_determinant_L64 x1 x2 (nI n) x5 (nI code))
    (fun m s => ∃ i od, i ≤ n ∧ m = n - i ∧ s = (nI (code / n ^ i), nI (dSeen n code i), nI i, od) ∧ ∀ q, q < i → od q = nI (dOrd n code q))
    (fun e => ∃ od', e = (nI (dSeen n code n), od') ∧ ∀ i, i < n → od' i = nI (dOrd n code i))
    (fun m s hI => by
      obtain ⟨i, od, hi, rfl, rfl, hod⟩ := hI
      show (∃ e, fX9_determinant_L64b x1 x2 (nI n) x5 (nI code) (nI (code / n ^ i)) (nI (dSeen n code i)) (nI i) od = some (.inr e) ∧ _) ∨ ∃ j s', j < n - i ∧ fX9_determinant_L64b x1 x2 (nI n) x5 (nI code) (nI (code / n ^ i)) (nI (dSeen n code i)) (nI i) od = some (.inl s') ∧ _
      unfold fX9_determinant_L64b
      have hle : code / n ^ i ≤ code := Nat.div_le_self _ _
      rcases Nat.lt_or_ge i n with hlt | hge
      · right
        have ho := dOrd_lt (code := code) (i := i) (show 0 < n by omega)
        rw [if_pos (nI_lt hlt (by omega)), rmI_n (by omega) (by omega) (by omega), dvI_n (by omega) (by omega) (by omega)]
        simp only [Option.bind_some]
        rw [wrI_n _ (by omega) (by decide)]
        simp only [Option.bind_some]
        rw [rdI_n (by omega) (by decide), upd_at]
        simp only [Option.bind_some]
        have e1 : code / n ^ i % n = dOrd n code i := rfl
        have e2 : code / n ^ i / n = code / n ^ (i + 1) := by rw [Nat.pow_succ, Nat.div_div_eq_div_mul]
        have hs := dSeen_lt (code := code) (show 0 < n by omega) hn i
        rw [e1, e2, seen_or _ hs _ (by omega), nI_inc]
        refine ⟨n - (i + 1), _, by omega, rfl, i + 1, upd od i (nI (dOrd n code i)), by omega, rfl, rfl, fun q hq => ?_⟩
        by_cases e : q = i
        · subst e; exact upd_at _ _ _
        · rw [upd_ne e]; exact hod q (by omega)
      · left
        have : i = n := by omega
        subst this
        rw [if_neg (nI_nlt (Nat.le_refl _) (by omega))]
        exact ⟨_, rfl, od, rfl, hod⟩) KF n (nI code, (0 : Int32), (0 : Int32), od) (KF_lt (by omega)) ⟨0, od, by omega, rfl, by
      show _ = (nI (code / n ^ 0), nI (dSeen n code 0), nI 0, od)
      rw [Nat.pow_zero, Nat.div_one]
      rfl, fun q hq => absurd hq (by omega)⟩
  obtain ⟨od', rfl, h2⟩ := h2
  exact ⟨od', h1, h2⟩
theorem sgs_abs (o : Nat → Nat) (i : Nat) (x : Int) : ∀ j, (sgs o i j x).natAbs = x.natAbs := by
  intro j
  induction j with
  | zero => rfl
  | succ j ih =>
    simp only [sgs]
    split
    · rw [Int.natAbs_neg]; exact ih
    · exact ih
theorem sign_n {n i : Nat} (hi : i < n) (hn : n ≤ 4) (o : Nat → Nat) (ho : ∀ q, q < n → o q < 4) {od : Nat → Int32} (hod : ∀ q, q < n → od q = nI (o q)) (x1 : Int32) (x2 : Int64) (x4 x5 x6 : Int32) (x : Int64) (hx : x.toInt.natAbs < 9223372036854775808) : ∃ z, itr (fX9_determinant_L185 x1 x2 x4 x5 x6 (nI i) od) KF (x, (0 : Int32)) = some z ∧ z.toInt = sgs o i i x.toInt := by
  exact itr_ex (f := fX9_determinant_L185 x1 x2 x4 x5 x6 (nI i) od)
    (fun m s => ∃ j y, j ≤ i ∧ m = i - j ∧ s = (y, nI j) ∧ y.toInt = sgs o i j x.toInt)
    (fun z => z.toInt = sgs o i i x.toInt)
    (fun m s hI => by
      obtain ⟨j, y, hj, rfl, rfl, hy⟩ := hI
      show (∃ e, fX9_determinant_L185b x1 x2 x4 x5 x6 (nI i) od y (nI j) = some (.inr e) ∧ _) ∨ ∃ k s', k < i - j ∧ fX9_determinant_L185b x1 x2 x4 x5 x6 (nI i) od y (nI j) = some (.inl s') ∧ _
      unfold fX9_determinant_L185b
      have hya : y.toInt.natAbs = x.toInt.natAbs := by rw [hy]; exact sgs_abs o i _ j
      rcases Nat.lt_or_ge j i with hlt | hge
      · right
        have o1 := ho i hi
        have o2 := ho j (by omega)
        rw [if_pos (nI_lt hlt (by omega)), rdI_n (by omega) (by decide), rdI_n (by omega) (by decide), hod i hi, hod j (by omega)]
        simp only [Option.bind_some]
        by_cases k : o i < o j
        · rw [if_pos (nI_lt k (by omega)), nI_inc]
          refine ⟨i - (j + 1), _, by omega, rfl, j + 1, -y, by omega, rfl, rfl, ?_⟩
          rw [t64_neg (by omega), hy]
          simp only [sgs]
          rw [if_pos k]
        · rw [if_neg (nI_nlt (by omega) (by omega)), nI_inc]
          refine ⟨i - (j + 1), _, by omega, rfl, j + 1, y, by omega, rfl, rfl, ?_⟩
          rw [hy]
          simp only [sgs]
          rw [if_neg k]
      · left
        have : j = i := by omega
        subst this
        rw [if_neg (nI_nlt (Nat.le_refl _) (by omega))]
        exact ⟨_, rfl, hy⟩) KF i (x, (0 : Int32)) (KF_lt (by omega)) ⟨0, x, by omega, rfl, rfl, rfl⟩
def bP : Nat → Nat
  | 0 => 1
  | i + 1 => 9999 * bP i
theorem trm_abs (o : Nat → Nat) (e : Nat → Nat → Int) : ∀ i, (∀ q, q < i → (e q (o q)).natAbs ≤ 9999) → (trm o e i).natAbs ≤ bP i := by
  intro i
  induction i with
  | zero => intro _; exact Nat.le_refl _
  | succ i ih =>
    intro h
    show (sgs o i i (trm o e i * e i (o i))).natAbs ≤ _
    rw [sgs_abs]
    have h1 := mul_bnd (ih (fun q hq => h q (by omega))) (h i (by omega))
    show _ ≤ 9999 * bP i
    omega
theorem bP_4 : ∀ i, i < 5 → bP i ≤ 9996000599960001 := by decide +kernel
theorem bP_3 : ∀ i, i < 4 → bP i ≤ 999700029999 := by decide +kernel
/-- the number at column c of row i, with what all come to instead at one place -/
def eI1 (A : Nat → Nat → Int) (F : Nat → Nat) (n : Nat) (x1 : Int32) (i c : Nat) : Int := if nI c = x1 then A (F i) n else A (F i) c
theorem eI1_abs {A : Nat → Nat → Int} {F : Nat → Nat} {n : Nat} (hA : Told n A) (hF : ∀ q, q < 5 → F q < 5) (x1 : Int32) {i c : Nat} (hi : i < 5) (hc : c ≤ n) : (eI1 A F n x1 i c).natAbs ≤ 9999 := by
  unfold eI1
  have h1 := hA (F i) (hF i hi) n (Nat.le_refl _)
  have h2 := hA (F i) (hF i hi) c hc
  have w1 := wW_le n n
  have w2 := wW_le n c
  split <;> omega
theorem term_n {n : Nat} (hn1 : 1 ≤ n) (hn : n ≤ 4) {A : Nat → Nat → Int} {F : Nat → Nat} (hA : Told n A) (hF : ∀ q, q < 5 → F q < 5) {tl fm : Nat → Int32} (htl : ∀ j, j < 5 → ∀ i, i ≤ n → (tl (5 * j + i)).toInt = A j i) (hfm : ∀ q, q < 5 → fm q = nI (F q)) (o : Nat → Nat) (ho : ∀ q, q < n → o q < n) {od : Nat → Int32} (hod : ∀ q, q < n → od q = nI (o q)) (x1 : Int32) (x2 : Int64) (x5 x6 : Int32) : ∃ z, itr (fX9_determinant_L127 x1 x2 (nI n) x5 x6 tl fm od) KF ((1 : Int64), (0 : Int32)) = some z ∧ z.toInt = trm o (eI1 A F n x1) n := by
  exact itr_ex (f := fX9_determinant_L127 x1 x2 (nI n) x5 x6 tl fm od)
    (fun m s => ∃ i y, i ≤ n ∧ m = n - i ∧ s = (y, nI i) ∧ y.toInt = trm o (eI1 A F n x1) i)
    (fun z => z.toInt = trm o (eI1 A F n x1) n)
    (fun m s hI => by
      obtain ⟨i, y, hi, rfl, rfl, hy⟩ := hI
      show (∃ e, fX9_determinant_L127b x1 x2 (nI n) x5 x6 tl fm od y (nI i) = some (.inr e) ∧ _) ∨ ∃ k s', k < n - i ∧ fX9_determinant_L127b x1 x2 (nI n) x5 x6 tl fm od y (nI i) = some (.inl s') ∧ _
      unfold fX9_determinant_L127b
      rcases Nat.lt_or_ge i n with hlt | hge
      · right
        have hoi := ho i hlt
        have hFi := hF i (by omega)
        have hya := trm_abs o (eI1 A F n x1) i (fun q hq => eI1_abs hA hF x1 (by omega) (by have := ho q (by omega); omega))
        have hb4 := bP_4 i (by omega)
        -- the factor, whichever it is
        have fin : ∀ v : Int32, v.toInt = eI1 A F n x1 i (o i) → ∃ z, itr (fX9_determinant_L185 x1 x2 (nI n) x5 x6 (nI i) od) KF (y * v.toInt64, (0 : Int32)) = some z ∧ z.toInt = trm o (eI1 A F n x1) (i + 1) := by
          intro v hv
          have hev := eI1_abs hA hF x1 (i := i) (c := o i) (by omega) (by omega)
          have hyb : y.toInt.natAbs ≤ bP i := by rw [hy]; exact hya
          have hb3 := bP_3 i (by omega)
          have hm : (y.toInt * v.toInt).natAbs ≤ 999700029999 * 9999 := mul_bnd (by omega) (by rw [hv]; exact hev)
          have hyv : (y * v.toInt64).toInt = y.toInt * v.toInt := by
            rw [t64_mul] <;> rw [t32_to64] <;> omega
          obtain ⟨z, z1, z2⟩ := sign_n hlt hn o (fun q hq => by have := ho q hq; omega) hod x1 x2 (nI n) x5 x6 (y * v.toInt64) (by rw [hyv]; omega)
          refine ⟨z, z1, ?_⟩
          rw [z2, hyv, hy, hv]
          rfl
        have heq : ∀ c, c < 5 → 5 * F i + c < 25 := fun c hc => by omega
        rw [if_pos (nI_lt hlt (by omega)), rdI_n (by omega) (by decide), hod i hlt]
        simp only [Option.bind_some]
        by_cases k : nI (o i) = x1
        · rw [if_pos k, rdI_n (by omega) (by decide), hfm i (by omega)]
          simp only [Option.bind_some]
          rw [ix5', rdI_n (heq n (by omega)) (by decide)]
          simp only [Option.bind_some]
          obtain ⟨z, z1, z2⟩ := fin (tl (5 * F i + n)) (by unfold eI1; rw [if_pos k]; exact htl _ hFi n (Nat.le_refl _))
          rw [z1]
          simp only [Option.bind_some, nI_inc]
          exact ⟨n - (i + 1), _, by omega, rfl, i + 1, z, by omega, rfl, rfl, z2⟩
        · rw [if_neg k, rdI_n (by omega) (by decide), hfm i (by omega)]
          simp only [Option.bind_some]
          rw [ix5', rdI_n (heq (o i) (by omega)) (by decide)]
          simp only [Option.bind_some]
          obtain ⟨z, z1, z2⟩ := fin (tl (5 * F i + o i)) (by unfold eI1; rw [if_neg k]; exact htl _ hFi (o i) (by omega))
          rw [z1]
          simp only [Option.bind_some, nI_inc]
          exact ⟨n - (i + 1), _, by omega, rfl, i + 1, z, by omega, rfl, rfl, z2⟩
      · left
        have : i = n := by omega
        subst this
        rw [if_neg (nI_nlt (Nat.le_refl _) (by omega))]
        exact ⟨_, rfl, hy⟩) KF n ((1 : Int64), (0 : Int32)) (KF_lt (by omega)) ⟨0, 1, by omega, rfl, rfl, rfl⟩
theorem detsum_n {n N : Nat} (hn1 : 1 ≤ n) (hn : n ≤ 4) (hN : N ≤ 256) {A : Nat → Nat → Int} {F : Nat → Nat} (hA : Told n A) (hF : ∀ q, q < 5 → F q < 5) {tl fm : Nat → Int32} (htl : ∀ j, j < 5 → ∀ i, i ≤ n → (tl (5 * j + i)).toInt = A j i) (hfm : ∀ q, q < 5 → fm q = nI (F q)) (x1 : Int32) (od : Nat → Int32) : ∃ z od', fX9_determinant_B42 x1 (0 : Int64) (nI n) (nI N) tl fm od = some (z, od') ∧ z.toInt = dsum n (eI1 A F n x1) N := by
  obtain ⟨e, h1, h2⟩ := itr_ex (f := fX9_determinant_L47 x1 (nI n) (nI N) tl fm)
    (fun m s => ∃ c y od, c ≤ N ∧ m = N - c ∧ s = (y, nI c, od) ∧ y.toInt = dsum n (eI1 A F n x1) c ∧ y.toInt.natAbs ≤ c * 9996000599960001)
    (fun e => e.1.toInt = dsum n (eI1 A F n x1) N)
    (fun m s hI => by
      obtain ⟨c, y, od, hc, rfl, rfl, hy, hyb⟩ := hI
      show (∃ e, fX9_determinant_L47b x1 (nI n) (nI N) tl fm y (nI c) od = some (.inr e) ∧ _) ∨ ∃ k s', k < N - c ∧ fX9_determinant_L47b x1 (nI n) (nI N) tl fm y (nI c) od = some (.inl s') ∧ _
      unfold fX9_determinant_L47b
      rcases Nat.lt_or_ge c N with hlt | hge
      · right
        obtain ⟨od', o1, o2⟩ := ord_n hn1 hn (show c < 256 by omega) x1 y (nI N) od
        have hs := dSeen_lt (code := c) (show 0 < n by omega) hn n
        have h2n : 2 ^ n ≤ 2 ^ 4 := Nat.pow_le_pow_right (by decide) hn
        rw [if_pos (nI_lt hlt (by omega)), o1]
        simp only [bn2, Option.bind_some]
        rw [seen_all n (by omega)]
        have hsum : dsum n (eI1 A F n x1) (c + 1) = if dSeen n c n = 2 ^ n - 1 then dsum n (eI1 A F n x1) c + trm (dOrd n c) (eI1 A F n x1) n else dsum n (eI1 A F n x1) c := rfl
        by_cases k : dSeen n c n = 2 ^ n - 1
        · obtain ⟨z, z1, z2⟩ := term_n hn1 hn hA hF htl hfm (dOrd n c) (fun q hq => dOrd_lt (by omega)) o2 x1 y (nI N) (nI c)
          have hza := trm_abs (dOrd n c) (eI1 A F n x1) n (fun q hq => eI1_abs hA hF x1 (by omega) (by have := dOrd_lt (code := c) (i := q) (show 0 < n by omega); omega))
          have hb4 := bP_4 n (by omega)
          rw [if_pos k] at hsum
          rw [if_pos (by rw [k]), z1]
          simp only [Option.bind_some, nI_inc]
          have hyz : (y + z).toInt = y.toInt + z.toInt := by
            rw [t64_add] <;> rw [z2] <;> omega
          refine ⟨N - (c + 1), _, by omega, rfl, c + 1, y + z, od', by omega, rfl, rfl, ?_, ?_⟩
          · rw [hyz, hsum, hy, z2]
          · rw [hyz, z2]
            omega
        · rw [if_neg k] at hsum
          rw [if_neg (nI_ne k (by omega) (by omega)), nI_inc]
          exact ⟨N - (c + 1), _, by omega, rfl, c + 1, y, od', by omega, rfl, rfl, by rw [hsum, hy], Nat.le_trans hyb (Nat.mul_le_mul_right _ (Nat.le_succ c))⟩
      · left
        have : c = N := by omega
        subst this
        rw [if_neg (nI_nlt (Nat.le_refl _) (by omega))]
        exact ⟨_, rfl, hy⟩) KF N ((0 : Int64), (0 : Int32), od) (KF_lt (by omega)) ⟨0, 0, od, by omega, rfl, rfl, rfl, by decide⟩
  unfold fX9_determinant_B42
  rw [h1]
  exact ⟨e.1, e.2, rfl, h2⟩
theorem determinant_n {n : Nat} (hn1 : 1 ≤ n) (hn : n ≤ 4) {A : Nat → Nat → Int} {F : Nat → Nat} (hA : Told n A) (hF : ∀ q, q < 5 → F q < 5) {tl fm : Nat → Int32} (htl : ∀ j, j < 5 → ∀ i, i ≤ n → (tl (5 * j + i)).toInt = A j i) (hfm : ∀ q, q < 5 → fm q = nI (F q)) (x1 : Int32) (od : Nat → Int32) : ∃ z od', fX9_determinant x1 (nI n) tl fm od = some (z, od') ∧ z.toInt = dsum n (eI1 A F n x1) (n ^ n) := by
  unfold fX9_determinant
  rcases (show n = 1 ∨ n = 2 ∨ n = 3 ∨ n = 4 by omega) with rfl | rfl | rfl | rfl
  · rw [if_pos (show nI 1 = (1 : Int32) from rfl)]
    exact detsum_n (N := 1) (by omega) (by omega) (by omega) hA hF htl hfm x1 od
  · rw [if_neg (show ¬ nI 2 = (1 : Int32) by decide), if_pos (show nI 2 = (2 : Int32) from rfl)]
    exact detsum_n (N := 4) (by omega) (by omega) (by omega) hA hF htl hfm x1 od
  · rw [if_neg (show ¬ nI 3 = (1 : Int32) by decide), if_neg (show ¬ nI 3 = (2 : Int32) by decide), if_pos (show nI 3 = (3 : Int32) from rfl)]
    exact detsum_n (N := 27) (by omega) (by omega) (by omega) hA hF htl hfm x1 od
  · rw [if_neg (show ¬ nI 4 = (1 : Int32) by decide), if_neg (show ¬ nI 4 = (2 : Int32) by decide), if_neg (show ¬ nI 4 = (3 : Int32) by decide)]
    exact detsum_n (N := 256) (by omega) (by omega) (by omega) hA hF htl hfm x1 od
