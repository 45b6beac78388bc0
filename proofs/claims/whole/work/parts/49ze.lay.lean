/-! ===== readings: what layouts there are, as numbers ===== -/
/-- the reading of the places m below place l, by the groups from g on -/
def rdg (c : Nat) (W Z : Nat → Nat) : Nat → Nat → Nat → Option Nat
  | 0, g, _ => if g = c then some 0 else none
  | l + 1, g, m => if m < 2 ^ l then rdg c W Z l g m else if g < c ∧ W g = l % 2 then (rdg c W Z l (g + 1) (m - 2 ^ l)).map (fun v => v + Z g * 10 ^ l) else none
/-- how many there are below n -/
def cnt (f : Nat → Option Nat) : Nat → Nat
  | 0 => 0
  | n + 1 => cnt f n + (if (f n).isSome = true then 1 else 0)
/-- in how many ways the groups from g on lie below place l -/
def Lay (c : Nat) (W : Nat → Nat) : Nat → Nat → Nat
  | 0, g => if g = c then 1 else 0
  | l + 1, g => Lay c W l g + (if g < c ∧ W g = l % 2 then Lay c W l (g + 1) else 0)
/-- the i-th of them -/
def nth (c : Nat) (W Z : Nat → Nat) : Nat → Nat → Nat → Nat
  | 0, _, _ => 0
  | l + 1, g, i => if i < Lay c W l g then nth c W Z l g i else Z g * 10 ^ l + nth c W Z l (g + 1) (i - Lay c W l g)
theorem cnt_congr {f f' : Nat → Option Nat} : ∀ n, (∀ m, m < n → f m = f' m) → cnt f n = cnt f' n := by
  intro n
  induction n with
  | zero => intro _; rfl
  | succ n ih =>
    intro h
    simp only [cnt]
    rw [ih (fun m hm => h m (by omega)), h n (by omega)]
theorem cnt_le (f : Nat → Option Nat) : ∀ n, cnt f n ≤ n := by
  intro n
  induction n with
  | zero => exact Nat.le_refl _
  | succ n ih =>
    simp only [cnt]
    split <;> omega
theorem cnt_mono (f : Nat → Option Nat) {a b : Nat} (h : a ≤ b) : cnt f a ≤ cnt f b := by
  induction b with
  | zero =>
    have : a = 0 := by omega
    subst this
    exact Nat.le_refl _
  | succ b ih =>
    by_cases e : a = b + 1
    · subst e; exact Nat.le_refl _
    · have := ih (by omega)
      simp only [cnt]
      omega
theorem cnt_some {f : Nat → Option Nat} {n v : Nat} (h : f n = some v) : cnt f (n + 1) = cnt f n + 1 := by
  simp only [cnt]
  rw [h]
  rfl
theorem rdg_lo {c : Nat} {W Z : Nat → Nat} {l g m : Nat} (h : m < 2 ^ l) : rdg c W Z (l + 1) g m = rdg c W Z l g m := by
  simp only [rdg]
  rw [if_pos h]
theorem rdg_hi {c : Nat} {W Z : Nat → Nat} (l g m : Nat) : rdg c W Z (l + 1) g (2 ^ l + m) = if g < c ∧ W g = l % 2 then (rdg c W Z l (g + 1) m).map (fun v => v + Z g * 10 ^ l) else none := by
  simp only [rdg]
  rw [if_neg (by omega), show 2 ^ l + m - 2 ^ l = m by omega]
theorem cnt_hi {c : Nat} {W Z : Nat → Nat} (l g n : Nat) : cnt (rdg c W Z (l + 1) g) (2 ^ l + n) = cnt (rdg c W Z l g) (2 ^ l) + (if g < c ∧ W g = l % 2 then cnt (rdg c W Z l (g + 1)) n else 0) := by
  induction n with
  | zero =>
    show cnt (rdg c W Z (l + 1) g) (2 ^ l) = _
    rw [cnt_congr (f := rdg c W Z (l + 1) g) (f' := rdg c W Z l g) (2 ^ l) (fun m hm => rdg_lo hm)]
    simp only [cnt, ite_self, Nat.add_zero]
  | succ n ih =>
    rw [← Nat.add_assoc]
    simp only [cnt]
    rw [ih, rdg_hi]
    by_cases k : g < c ∧ W g = l % 2
    · rw [if_pos k, if_pos k, if_pos k, Option.isSome_map, Nat.add_assoc]
    · rw [if_neg k, if_neg k, if_neg k]
      rfl
theorem cnt_all {c : Nat} {W Z : Nat → Nat} : ∀ l g, cnt (rdg c W Z l g) (2 ^ l) = Lay c W l g := by
  intro l
  induction l with
  | zero =>
    intro g
    show cnt (rdg c W Z 0 g) 1 = Lay c W 0 g
    have h0 : rdg c W Z 0 g 0 = if g = c then some 0 else none := rfl
    show 0 + (if (rdg c W Z 0 g 0).isSome = true then 1 else 0) = if g = c then 1 else 0
    by_cases k : g = c
    · rw [if_pos k] at h0
      rw [h0, if_pos k]
      rfl
    · rw [if_neg k] at h0
      rw [h0, if_neg k]
      rfl
  | succ l ih =>
    intro g
    rw [Nat.pow_succ, Nat.mul_two, cnt_hi, ih, ih]
    rfl
theorem Lay_le (c : Nat) (W : Nat → Nat) (l g : Nat) : Lay c W l g ≤ 2 ^ l := by
  rw [← cnt_all (Z := fun _ => 0) l g]
  exact cnt_le _ _
theorem Lay_c (c : Nat) (W : Nat → Nat) : ∀ l, Lay c W l c = 1 := by
  intro l
  induction l with
  | zero => simp only [Lay, if_true]
  | succ l ih =>
    simp only [Lay]
    rw [ih, if_neg (fun e => absurd e.1 (by omega))]
theorem Lay_mono (c : Nat) (W : Nat → Nat) (g : Nat) {a b : Nat} (h : a ≤ b) : Lay c W a g ≤ Lay c W b g := by
  induction b with
  | zero =>
    have : a = 0 := by omega
    subst this
    exact Nat.le_refl _
  | succ b ih =>
    by_cases e : a = b + 1
    · subst e; exact Nat.le_refl _
    · have := ih (by omega)
      simp only [Lay]
      omega
theorem nth_ok {c : Nat} {W Z : Nat → Nat} : ∀ l g i, i < Lay c W l g → ∃ m, m < 2 ^ l ∧ rdg c W Z l g m = some (nth c W Z l g i) ∧ cnt (rdg c W Z l g) m = i := by
  intro l
  induction l with
  | zero =>
    intro g i hi
    simp only [Lay] at hi
    by_cases k : g = c
    · rw [if_pos k] at hi
      exact ⟨0, by decide, by simp only [rdg, nth, if_pos k], by simp only [cnt]; omega⟩
    · rw [if_neg k] at hi
      omega
  | succ l ih =>
    intro g i hi
    have hp : 2 ^ (l + 1) = 2 ^ l + 2 ^ l := by rw [Nat.pow_succ, Nat.mul_two]
    by_cases k : i < Lay c W l g
    · obtain ⟨m, h1, h2, h3⟩ := ih g i k
      refine ⟨m, by omega, ?_, ?_⟩
      · rw [rdg_lo h1, h2]
        simp only [nth]
        rw [if_pos k]
      · rw [cnt_congr (f := rdg c W Z (l + 1) g) (f' := rdg c W Z l g) m (fun m' hm' => rdg_lo (by omega)), h3]
    · simp only [Lay] at hi
      by_cases q : g < c ∧ W g = l % 2
      · rw [if_pos q] at hi
        obtain ⟨m, h1, h2, h3⟩ := ih (g + 1) (i - Lay c W l g) (by omega)
        refine ⟨2 ^ l + m, by omega, ?_, ?_⟩
        · rw [rdg_hi, if_pos q, h2]
          simp only [nth, Option.map_some]
          rw [if_neg k, Nat.add_comm]
        · rw [cnt_hi, if_pos q, h3, cnt_all]
          omega
      · rw [if_neg q] at hi
        omega
theorem rdg_lt {c : Nat} {W Z : Nat → Nat} (hZ : ∀ g, g < c → Z g ≤ 9) : ∀ l g m v, rdg c W Z l g m = some v → v < 10 ^ l := by
  intro l
  induction l with
  | zero =>
    intro g m v h
    simp only [rdg] at h
    by_cases k : g = c
    · rw [if_pos k] at h
      cases h
      decide
    · rw [if_neg k] at h
      cases h
  | succ l ih =>
    intro g m v h
    have hp : 10 ^ (l + 1) = 10 * 10 ^ l := by rw [Nat.pow_succ, Nat.mul_comm]
    simp only [rdg] at h
    by_cases k : m < 2 ^ l
    · rw [if_pos k] at h
      have := ih g m v h
      omega
    · rw [if_neg k] at h
      by_cases q : g < c ∧ W g = l % 2
      · rw [if_pos q] at h
        cases hr : rdg c W Z l (g + 1) (m - 2 ^ l) with
        | none => rw [hr] at h; cases h
        | some w =>
          rw [hr] at h
          simp only [Option.map_some, Option.some.injEq] at h
          have h1 := ih (g + 1) (m - 2 ^ l) w hr
          have h2 : Z g * 10 ^ l ≤ 9 * 10 ^ l := Nat.mul_le_mul_right _ (hZ g q.1)
          omega
      · rw [if_neg q] at h
        cases h
theorem nth_lt {c : Nat} {W Z : Nat → Nat} (hZ : ∀ g, g < c → Z g ≤ 9) {l g i : Nat} (h : i < Lay c W l g) : nth c W Z l g i < 10 ^ l := by
  obtain ⟨m, -, h2, -⟩ := nth_ok (Z := Z) l g i h
  exact rdg_lt hZ l g m _ h2
theorem nth_at {c : Nat} {W Z : Nat → Nat} {g p i : Nat} (h1 : Lay c W p g ≤ i) (h2 : i < Lay c W (p + 1) g) : ∀ l, p < l → nth c W Z l g i = Z g * 10 ^ p + nth c W Z p (g + 1) (i - Lay c W p g) := by
  intro l
  induction l with
  | zero => intro h; omega
  | succ l ih =>
    intro h
    simp only [nth]
    by_cases e : p = l
    · subst e
      rw [if_neg (by omega)]
    · have h3 := Lay_mono c W g (show p + 1 ≤ l by omega)
      rw [if_pos (by omega)]
      exact ih (by omega)
theorem nth_c (c : Nat) (W Z : Nat → Nat) : ∀ l, nth c W Z l c 0 = 0 := by
  intro l
  induction l with
  | zero => rfl
  | succ l ih =>
    simp only [nth]
    rw [Lay_c, if_pos (by omega), ih]
