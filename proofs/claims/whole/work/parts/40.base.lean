/-! ===== the pure part: numbers, loops, places ===== -/
theorem t32_add {a b : Int32} (h1 : -2147483648 ≤ a.toInt + b.toInt) (h2 : a.toInt + b.toInt < 2147483648) : (a + b).toInt = a.toInt + b.toInt := by
  rw [Int32.toInt_add]; apply Int.bmod_eq_of_le <;> omega
theorem t32_sub {a b : Int32} (h1 : -2147483648 ≤ a.toInt - b.toInt) (h2 : a.toInt - b.toInt < 2147483648) : (a - b).toInt = a.toInt - b.toInt := by
  rw [Int32.toInt_sub]; apply Int.bmod_eq_of_le <;> omega
theorem t32_mul {a b : Int32} (h1 : -2147483648 ≤ a.toInt * b.toInt) (h2 : a.toInt * b.toInt < 2147483648) : (a * b).toInt = a.toInt * b.toInt := by
  rw [Int32.toInt_mul]; apply Int.bmod_eq_of_le <;> omega
theorem t32_neg {a : Int32} (h1 : -2147483648 < a.toInt) : (-a).toInt = -a.toInt := by
  have := Int32.toInt_lt a
  rw [Int32.toInt_neg]; apply Int.bmod_eq_of_le <;> omega
theorem t64_add {a b : Int64} (h1 : -9223372036854775808 ≤ a.toInt + b.toInt) (h2 : a.toInt + b.toInt < 9223372036854775808) : (a + b).toInt = a.toInt + b.toInt := by
  rw [Int64.toInt_add]; apply Int.bmod_eq_of_le <;> omega
theorem t64_sub {a b : Int64} (h1 : -9223372036854775808 ≤ a.toInt - b.toInt) (h2 : a.toInt - b.toInt < 9223372036854775808) : (a - b).toInt = a.toInt - b.toInt := by
  rw [Int64.toInt_sub]; apply Int.bmod_eq_of_le <;> omega
theorem t64_mul {a b : Int64} (h1 : -9223372036854775808 ≤ a.toInt * b.toInt) (h2 : a.toInt * b.toInt < 9223372036854775808) : (a * b).toInt = a.toInt * b.toInt := by
  rw [Int64.toInt_mul]; apply Int.bmod_eq_of_le <;> omega
theorem t64_neg {a : Int64} (h1 : -9223372036854775808 < a.toInt) : (-a).toInt = -a.toInt := by
  have := Int64.toInt_lt a
  rw [Int64.toInt_neg]; apply Int.bmod_eq_of_le <;> omega
theorem t64_div {a b : Int64} (ha : 0 ≤ a.toInt) (hb : 0 < b.toInt) : (a / b).toInt = a.toInt / b.toInt := by
  have h1 := Int64.toInt_lt a
  have h2 : a.toInt.tdiv b.toInt = a.toInt / b.toInt := Int.tdiv_eq_ediv_of_nonneg ha
  have h3 : 0 ≤ a.toInt / b.toInt := Int.ediv_nonneg ha (by omega)
  have h4 : a.toInt / b.toInt ≤ a.toInt := Int.ediv_le_self _ ha
  rw [Int64.toInt_div, h2]; apply Int.bmod_eq_of_le <;> omega
theorem t64_mod {a b : Int64} (ha : 0 ≤ a.toInt) : (a % b).toInt = a.toInt % b.toInt := by
  rw [Int64.toInt_mod]; exact Int.tmod_eq_emod_of_nonneg ha
theorem t32_div {a b : Int32} (ha : 0 ≤ a.toInt) (hb : 0 < b.toInt) : (a / b).toInt = a.toInt / b.toInt := by
  have h1 := Int32.toInt_lt a
  have h2 : a.toInt.tdiv b.toInt = a.toInt / b.toInt := Int.tdiv_eq_ediv_of_nonneg ha
  have h3 : 0 ≤ a.toInt / b.toInt := Int.ediv_nonneg ha (by omega)
  have h4 : a.toInt / b.toInt ≤ a.toInt := Int.ediv_le_self _ ha
  rw [Int32.toInt_div, h2]; apply Int.bmod_eq_of_le <;> omega
theorem t32_mod {a b : Int32} (ha : 0 ≤ a.toInt) : (a % b).toInt = a.toInt % b.toInt := by
  rw [Int32.toInt_mod]; exact Int.tmod_eq_emod_of_nonneg ha
theorem t64_to32 {a : Int64} (h1 : -2147483648 ≤ a.toInt) (h2 : a.toInt < 2147483648) : a.toInt32.toInt = a.toInt := by
  rw [Int64.toInt_toInt32]; apply Int.bmod_eq_of_le <;> omega
theorem t32_to64 (a : Int32) : a.toInt64.toInt = a.toInt := Int32.toInt_toInt64 a
theorem nI_of_toInt {x : Int32} {n : Nat} (h : x.toInt = n) : x = nI n := by
  apply Int32.toInt_inj.mp
  have := Int32.toInt_lt x
  rw [h, nI_toInt (by omega)]
theorem lN_toInt' {n : Nat} (h : n < 2 ^ 63) : (lN n).toInt = (n : Int) := Int64.toInt_ofNat_of_lt h
theorem lN_of_toInt {x : Int64} {n : Nat} (h : x.toInt = n) : x = lN n := by
  apply Int64.toInt_inj.mp
  have := Int64.toInt_lt x
  rw [h, lN_toInt' (by omega)]
theorem nI_ex {x : Int32} (h : 0 ≤ x.toInt) : ∃ n : Nat, n < 2 ^ 31 ∧ x = nI n := by
  have := Int32.toInt_lt x
  exact ⟨x.toInt.toNat, by omega, nI_of_toInt (by omega)⟩
theorem nI_mul (a b : Nat) : nI a * nI b = nI (a * b) := (Int32.ofNat_mul a b).symm
-- reading and writing at a counted place
theorem inb_n {i n : Nat} (h : i < n) (hn : n < 2 ^ 31) : inb (nI i) n = true := decide_eq_true (nI_in h hn)
theorem rdI_n {f : Nat → Int32} {n i : Nat} (h : i < n) (hn : n < 2 ^ 31) : rdI f n (nI i) = some (f i) := by
  unfold rdI; rw [if_pos (inb_n h hn), nI_clamp (by omega)]
theorem rdJ_n {f : Nat → Int64} {n i : Nat} (h : i < n) (hn : n < 2 ^ 31) : rdJ f n (nI i) = some (f i) := by
  unfold rdJ; rw [if_pos (inb_n h hn), nI_clamp (by omega)]
theorem wrI_n {f : Nat → Int32} {n i : Nat} (v : Int32) (h : i < n) (hn : n < 2 ^ 31) : wrI f n (nI i) v = some (upd f i v) := by
  unfold wrI; rw [if_pos (inb_n h hn), nI_clamp (by omega)]
theorem wrZ_n {f : Nat → Int32} {n i : Nat} (v : Int32) (h : i < n) (hn : n < 2 ^ 31) : wrZ f n (nI i) v = some (upd f i (vp_nar .boolean v)) := by
  unfold wrZ; rw [if_pos (inb_n h hn), nI_clamp (by omega)]
theorem wrJ_n {f : Nat → Int64} {n i : Nat} (v : Int64) (h : i < n) (hn : n < 2 ^ 31) : wrJ f n (nI i) v = some (vp_updL f i v) := by
  unfold wrJ; rw [if_pos (inb_n h hn), nI_clamp (by omega)]
theorem updL_at (f : Nat → Int64) (i : Nat) (v : Int64) : vp_updL f i v i = v := if_pos rfl
theorem updL_ne {f : Nat → Int64} {i j : Nat} {v : Int64} (h : j ≠ i) : vp_updL f i v j = f j := if_neg h
theorem upd_at (f : Nat → Int32) (i : Nat) (v : Int32) : upd f i v i = v := if_pos rfl
theorem upd_ne {f : Nat → Int32} {i j : Nat} {v : Int32} (h : j ≠ i) : upd f i v j = f j := if_neg h
-- loops
theorem itr_ex {S E : Type} {f : S → Option (S ⊕ E)} (I : Nat → S → Prop) (Q : E → Prop) (step : ∀ i s, I i s → (∃ e, f s = some (.inr e) ∧ Q e) ∨ (∃ j s', j < i ∧ f s = some (.inl s') ∧ I j s')) : ∀ N i s, i < N → I i s → ∃ e, itr f N s = some e ∧ Q e := by
  intro N
  induction N with
  | zero => intro i s h; omega
  | succ N ih =>
    intro i s hi hI
    rcases step i s hI with ⟨e, h1, h2⟩ | ⟨j, s', hj, h1, h2⟩
    · exact ⟨e, by simp [itr, h1], h2⟩
    · obtain ⟨e, h3, h4⟩ := ih j s' (by omega) h2
      exact ⟨e, by simp [itr, h1, h3], h4⟩
theorem itr_rel {S T E F : Type} {f : S → Option (S ⊕ E)} {g : T → Option (T ⊕ F)} (I : Nat → S → T → Prop) (Q : E → F → Prop) (step : ∀ i s t, I i s t → (∃ e e', f s = some (.inr e) ∧ g t = some (.inr e') ∧ Q e e') ∨ (∃ j s' t', j < i ∧ f s = some (.inl s') ∧ g t = some (.inl t') ∧ I j s' t')) : ∀ N i s t, i < N → I i s t → ∃ e e', itr f N s = some e ∧ itr g N t = some e' ∧ Q e e' := by
  intro N
  induction N with
  | zero => intro i s t h; omega
  | succ N ih =>
    intro i s t hi hI
    rcases step i s t hI with ⟨e, e', h1, h2, h3⟩ | ⟨j, s', t', hj, h1, h2, h3⟩
    · exact ⟨e, e', by simp [itr, h1], by simp [itr, h2], h3⟩
    · obtain ⟨e, e', h4, h5, h6⟩ := ih j s' t' (by omega) h3
      exact ⟨e, e', by simp [itr, h1, h4], by simp [itr, h2, h5], h6⟩
/-- a loop that counts from 0 to n through the states s -/
theorem itr_to {S E : Type} {f : S → Option (S ⊕ E)} (s : Nat → S) (n : Nat) (e : E) (hs : ∀ i, i < n → f (s i) = some (.inl (s (i + 1)))) (he : f (s n) = some (.inr e)) {N : Nat} (hN : n < N) : itr f N (s 0) = some e := by
  have key : ∀ k N i, i + k = n → k < N → itr f N (s i) = some e := by
    intro k
    induction k with
    | zero =>
      intro N i h1 h2
      obtain ⟨N, rfl⟩ : ∃ M, N = M + 1 := ⟨N - 1, by omega⟩
      have : i = n := by omega
      subst this
      simp [itr, he]
    | succ k ih =>
      intro N i h1 h2
      obtain ⟨N, rfl⟩ : ∃ M, N = M + 1 := ⟨N - 1, by omega⟩
      simp only [itr, hs i (by omega), Option.bind_some, Sum.elim_inl]
      exact ih N (i + 1) (by omega) (by omega)
  exact key n N 0 (by omega) hN
theorem KF_lt {n : Nat} (h : n < 10000) : n < KF := h
-- rows
theorem row_cases (p : Int32) : (∃ k, k < 8 ∧ p = nI k ∧ fX8_isRow p = some 1 ∧ fX9_isRow p = some 1) ∨ (fX8_isRow p = some 0 ∧ fX9_isRow p = some 0) := by
  by_cases h : 0 ≤ p.toInt ∧ p.toInt < 8
  · left
    refine ⟨p.toInt.toNat, by omega, nI_of_toInt (by omega), ?_, ?_⟩
    · unfold fX8_isRow
      rw [if_neg (by rw [Int32.lt_iff_toInt_lt]; show ¬ p.toInt < 0; omega), if_pos (by rw [Int32.lt_iff_toInt_lt]; show p.toInt < 8; omega)]
    · unfold fX9_isRow fX9_in
      rw [if_neg (by rw [Int64.lt_iff_toInt_lt, t32_to64]; show ¬ p.toInt < 0; omega), if_neg (by rw [Int64.lt_iff_toInt_lt, t32_to64]; show ¬ 7 < p.toInt; omega)]
      rfl
  · right
    constructor
    · unfold fX8_isRow
      by_cases h1 : p.toInt < 0
      · rw [if_pos (by rw [Int32.lt_iff_toInt_lt]; exact h1)]
      · rw [if_neg (by rw [Int32.lt_iff_toInt_lt]; exact h1), if_neg (by rw [Int32.lt_iff_toInt_lt]; show ¬ p.toInt < 8; omega)]
    · unfold fX9_isRow fX9_in
      by_cases h1 : p.toInt < 0
      · rw [if_pos (by rw [Int64.lt_iff_toInt_lt, t32_to64]; exact h1)]; rfl
      · rw [if_neg (by rw [Int64.lt_iff_toInt_lt, t32_to64]; exact h1), if_pos (by rw [Int64.lt_iff_toInt_lt, t32_to64]; show 7 < p.toInt; omega)]; rfl
theorem in9 (a b c : Int64) : fX9_in a b c = some (if b.toInt ≤ a.toInt ∧ a.toInt ≤ c.toInt then 1 else 0) := by
  unfold fX9_in
  simp only [Int64.lt_iff_toInt_lt]
  by_cases h1 : a.toInt < b.toInt
  · rw [if_pos h1, if_neg (by omega)]
  · rw [if_neg h1]
    by_cases h2 : c.toInt < a.toInt
    · rw [if_pos h2, if_neg (by omega)]
    · rw [if_neg h2, if_pos (by omega)]
def Fit (v : Int64) : Prop := -1000000000000 < v.toInt ∧ v.toInt < 1000000000000
theorem tenTo8 : ∀ p, p < 12 → fX5_tenTo (nI p) = some (tensF p) := by decide +kernel
theorem ten9 : ∀ p, p < 12 → fX9_ten (nI p) = some (tensF p) := by decide +kernel
theorem tens_toInt : ∀ p, p < 12 → (tensF p).toInt = ((10 ^ p : Nat) : Int) := by decide +kernel
theorem tens_ne : ∀ p, p < 12 → ¬ tensF p = 0 := by decide +kernel
def dgt (v : Int64) (p : Nat) : Nat := v.toInt.natAbs / 10 ^ p % 10
theorem dgt_lt (v : Int64) (p : Nat) : dgt v p < 10 := Nat.mod_lt _ (by decide)
theorem jabs_toInt {v : Int64} (h : Fit v) : (jabs v).toInt = (v.toInt.natAbs : Int) := by
  obtain ⟨h1, h2⟩ := h
  unfold jabs
  by_cases h3 : 0 < v.toInt
  · rw [if_pos (by rw [Int64.lt_iff_toInt_lt]; exact h3)]; omega
  · rw [if_neg (by rw [Int64.lt_iff_toInt_lt]; exact h3), t64_neg (by omega)]; omega
theorem size9_toInt {v : Int64} (h : Fit v) : ∃ z, fX9_size v = some z ∧ z.toInt = (v.toInt.natAbs : Int) := by
  obtain ⟨h1, h2⟩ := h
  unfold fX9_size
  by_cases h3 : v.toInt < 0
  · rw [if_pos (by rw [Int64.lt_iff_toInt_lt]; exact h3)]; exact ⟨_, rfl, by rw [t64_neg (by omega)]; omega⟩
  · rw [if_neg (by rw [Int64.lt_iff_toInt_lt]; exact h3)]; exact ⟨_, rfl, by omega⟩
theorem dg_core {z : Int64} {a p : Nat} (hz : z.toInt = a) (hp : p < 12) : ((z / tensF p) % 10).toInt32 = nI (a / 10 ^ p % 10) := by
  have h10 : (10 : Int64).toInt = 10 := rfl
  have ht := tens_toInt p hp
  have hpos : 0 < 10 ^ p := Nat.pow_pos (by decide)
  have h1 : (z / tensF p).toInt = ((a / 10 ^ p : Nat) : Int) := by
    rw [t64_div (by omega) (by omega), hz, ht]; rfl
  have h2 : ((z / tensF p) % 10).toInt = ((a / 10 ^ p % 10 : Nat) : Int) := by
    rw [t64_mod (by rw [h1]; exact Int.natCast_nonneg _), h1, h10]; rfl
  have h3 : a / 10 ^ p % 10 < 10 := Nat.mod_lt _ (by decide)
  apply nI_of_toInt
  rw [t64_to32 (by omega) (by omega), h2]
theorem digit8 {v : Int64} {p : Nat} (h : Fit v) (hp : p < 12) : fX5_digit v (nI p) = some (nI (dgt v p)) := by
  unfold fX5_digit
  rw [tenTo8 p hp]
  simp only [Option.bind_some, if_neg (tens_ne p hp), dvJ]
  rw [dg_core (jabs_toInt h) hp]; rfl
theorem digit9 {v : Int64} {p : Nat} (h : Fit v) (hp : p < 12) : fX9_digit v (nI p) = some (nI (dgt v p)) := by
  obtain ⟨z, h1, h2⟩ := size9_toInt h
  unfold fX9_digit
  rw [h1, ten9 p hp]
  simp only [Option.bind_some, if_neg (tens_ne p hp), dvJ]
  rw [dg_core h2 hp]; rfl
