/-! ===== mend: the loops ===== -/
def cod (i k : Nat) : Int32 := (100000 : Int32) * nI (i + k / 960) + (1000 : Int32) * nI (k / 120 % 8) + nI (k % 120)
theorem bool_of (P : Nat → Prop) : ∃ M : Nat → Bool, ∀ k, M k = true ↔ P k := by
  classical
  exact ⟨fun k => decide (P k), fun k => decide_eq_true_iff⟩
theorem find8_row {Cc : Nat → Int64} {Cn : Nat → Int32} {b i x : Nat} {M : Nat → Bool} (w : Int32) (hx : x < 16) (hM : ∀ j, j < 120 → (fX1_mends (nI i) (nI (i + x / 8)) (nI (x % 8)) (nI (j / 10)) (nI (j % 10)) (nI b) Cc Cn = some (1, Cc) ∧ M (120 * x + j) = true) ∨ (fX1_mends (nI i) (nI (i + x / 8)) (nI (x % 8)) (nI (j / 10)) (nI (j % 10)) (nI b) Cc Cn = some (0, Cc) ∧ M (120 * x + j) = false)) (x4 : Int32) : itr (fX1_findMend_L74 w (nI i) (nI x) (nI (i + x / 8)) (nI (x % 8)) (nI b) Cn) KF (x4, (0 : Int32), Cc) = some (Sum.elim (fun y => .inl (y, Cc)) (fun k => .inr (cod i k, Cc)) (fnd M w 120 (120 * x) x4)) := by
  obtain ⟨e, h1, h2⟩ := itr_ex (f := fX1_findMend_L74 w (nI i) (nI x) (nI (i + x / 8)) (nI (x % 8)) (nI b) Cn) (fun m s => ∃ j y, j ≤ 120 ∧ m = 120 - j ∧ s = (y, nI j, Cc) ∧ fnd M w (120 - j) (120 * x + j) y = fnd M w 120 (120 * x) x4) (fun e => e = Sum.elim (fun y => .inl (y, Cc)) (fun k => .inr (cod i k, Cc)) (fnd M w 120 (120 * x) x4)) (fun m s hI => by
    obtain ⟨j, y, hj, rfl, rfl, hT⟩ := hI
    show (∃ e, fX1_findMend_L74b w (nI i) (nI x) (nI (i + x / 8)) (nI (x % 8)) (nI b) Cn y (nI j) Cc = some (.inr e) ∧ _) ∨ ∃ j' s', j' < 120 - j ∧ fX1_findMend_L74b w (nI i) (nI x) (nI (i + x / 8)) (nI (x % 8)) (nI b) Cn y (nI j) Cc = some (.inl s') ∧ _
    unfold fX1_findMend_L74b
    rcases Nat.lt_or_ge j 120 with h | h
    · rw [if_pos (show nI j < (120 : Int32) from nI_lt h (by decide)), show nI j / (10 : Int32) = nI (j / 10) from nI_div (b := 10) (by omega) (by decide) (by decide), show nI j % (10 : Int32) = nI (j % 10) from nI_mod (b := 10) (by omega) (by decide)]
      have hs : fnd M w (120 - j) (120 * x + j) y = if M (120 * x + j) = true then (if y = w then .inr (120 * x + j) else fnd M w (120 - (j + 1)) (120 * x + (j + 1)) (y + 1)) else fnd M w (120 - (j + 1)) (120 * x + (j + 1)) y := by
        rw [show 120 - j = (120 - (j + 1)) + 1 by omega]
        rfl
      rcases hM j h with ⟨a1, a2⟩ | ⟨a1, a2⟩
      · rw [if_pos a2] at hs
        rw [a1]
        simp only [bn2, Option.bind_some, i10, nI_inc]
        by_cases c : y = w
        · left
          rw [if_pos c] at hs ⊢
          refine ⟨_, rfl, ?_⟩
          rw [← hT, hs]
          show Sum.inr (100000 * nI (i + x / 8) + 1000 * nI (x % 8) + nI j, Cc) = Sum.inr (cod i (120 * x + j), Cc)
          unfold cod
          rw [show (120 * x + j) / 960 = x / 8 by omega, show (120 * x + j) / 120 % 8 = x % 8 by omega, show (120 * x + j) % 120 = j by omega]
        · right
          rw [if_neg c] at hs ⊢
          exact ⟨120 - (j + 1), _, by omega, rfl, j + 1, y + 1, by omega, rfl, rfl, by rw [← hT, hs]⟩
      · right
        rw [if_neg (by rw [a2]; decide)] at hs
        rw [a1]
        simp only [bn2, Option.bind_some, if_true, nI_inc]
        exact ⟨120 - (j + 1), _, by omega, rfl, j + 1, y, by omega, rfl, rfl, by rw [← hT, hs]⟩
    · left
      have : j = 120 := by omega
      subst this
      rw [if_neg (by decide)]
      refine ⟨_, rfl, ?_⟩
      rw [← hT]
      rfl) KF 120 (x4, (0 : Int32), Cc) (KF_lt (by decide)) ⟨0, x4, by omega, rfl, rfl, rfl⟩
  rw [h1, h2]
theorem find8_all {b : Nat} {N : Nat → Int32} {Cc : Nat → Int64} {Cn : Nat → Int32} {My : Nat → Int64} {Mg Mn : Nat → Int32} (h : CP b N Cc Cn My Mg Mn) {i : Nat} (hi : i + 1 < b) (nd : ¬ Dk Cc i) (w : Int32) {M : Nat → Bool} (hM : ∀ k, M k = true ↔ PM Cc Cn b i (k / 960) (k / 120 % 8) (k / 10 % 12) (k % 10)) : itr (fX1_findMend_L33 w (nI i) (nI b) Cn) KF ((0 : Int32), (0 : Int32), Cc) = some (Sum.elim (fun y => .inl (y, Cc)) (fun k => .inr (cod i k, Cc)) (fnd M w 1920 0 0)) := by
  have hMj : ∀ x j, x < 16 → j < 120 → (fX1_mends (nI i) (nI (i + x / 8)) (nI (x % 8)) (nI (j / 10)) (nI (j % 10)) (nI b) Cc Cn = some (1, Cc) ∧ M (120 * x + j) = true) ∨ (fX1_mends (nI i) (nI (i + x / 8)) (nI (x % 8)) (nI (j / 10)) (nI (j % 10)) (nI b) Cc Cn = some (0, Cc) ∧ M (120 * x + j) = false) := by
    intro x j hx hj
    have hm := hM (120 * x + j)
    rw [show (120 * x + j) / 960 = x / 8 by omega, show (120 * x + j) / 120 % 8 = x % 8 by omega, show (120 * x + j) / 10 % 12 = j / 10 by omega, show (120 * x + j) % 10 = j % 10 by omega] at hm
    rcases mends8_n h (t := x / 8) (row := x % 8) (p := j / 10) (d := j % 10) hi nd (by omega) (by omega) (by omega) (by omega) with ⟨a1, a2⟩ | ⟨a1, a2⟩
    · exact Or.inl ⟨a1, hm.mpr a2⟩
    · exact Or.inr ⟨a1, Bool.eq_false_iff.mpr (fun q => a2 (hm.mp q))⟩
  obtain ⟨e, h1, h2⟩ := itr_ex (f := fX1_findMend_L33 w (nI i) (nI b) Cn) (fun m s => ∃ x y, x ≤ 16 ∧ m = 16 - x ∧ s = (y, nI x, Cc) ∧ fnd M w (1920 - 120 * x) (120 * x) y = fnd M w 1920 0 0) (fun e => e = Sum.elim (fun y => .inl (y, Cc)) (fun k => .inr (cod i k, Cc)) (fnd M w 1920 0 0)) (fun m s hI => by
    obtain ⟨x, y, hx, rfl, rfl, hT⟩ := hI
    show (∃ e, fX1_findMend_L33b w (nI i) (nI b) Cn y (nI x) Cc = some (.inr e) ∧ _) ∨ ∃ j' s', j' < 16 - x ∧ fX1_findMend_L33b w (nI i) (nI b) Cn y (nI x) Cc = some (.inl s') ∧ _
    unfold fX1_findMend_L33b
    rcases Nat.lt_or_ge x 16 with hx16 | hx16
    · have e1 : nI i + nI x / (8 : Int32) = nI (i + x / 8) := by
        rw [show nI x / (8 : Int32) = nI (x / 8) from nI_div (b := 8) (by omega) (by decide) (by decide), nI_add]
      rw [if_pos (show nI x < (16 : Int32) from nI_lt hx16 (by decide)), e1, show nI x % (8 : Int32) = nI (x % 8) from nI_mod (b := 8) (by omega) (by decide)]
      have hsp : fnd M w (1920 - 120 * x) (120 * x) y = Sum.elim (fun y => fnd M w (1920 - 120 * (x + 1)) (120 * (x + 1)) y) (fun j => .inr j) (fnd M w 120 (120 * x) y) := by
        rw [show 1920 - 120 * x = 120 + (1920 - 120 * (x + 1)) by omega, fnd_add, show 120 * x + 120 = 120 * (x + 1) by omega]
      rcases may_n h (t := x / 8) (row := x % 8) hi nd (by omega) (by omega) with hm | ⟨hm, hno⟩
      · rw [hm]
        simp only [Option.bind_some, i10]
        rw [find8_row w hx16 (fun j hj => hMj x j hx16 hj) y]
        simp only [Option.bind_some]
        rcases hc : fnd M w 120 (120 * x) y with y' | k
        · right
          rw [hc, Sum.elim_inl] at hsp
          simp only [Sum.elim_inl, un2, nI_inc]
          exact ⟨16 - (x + 1), _, by omega, rfl, x + 1, y', by omega, rfl, rfl, by rw [← hT, hsp]⟩
        · left
          rw [hc] at hsp
          simp only [Sum.elim_inr, un2]
          exact ⟨_, rfl, by rw [← hT, hsp]; rfl⟩
      · right
        rw [hm]
        simp only [Option.bind_some, if_true, nI_inc]
        have hz : fnd M w 120 (120 * x) y = .inl y := fnd_none M w 120 (120 * x) y (fun k hk1 hk2 => by
          have hk := hM k
          refine Bool.eq_false_iff.mpr (fun q => ?_)
          have hP := hk.mp q
          rw [show k / 960 = x / 8 by omega, show k / 120 % 8 = x % 8 by omega] at hP
          refine hno _ ?_ hP.2.1
          exact (nv_ok (nd_cell h hi nd (by omega) (by omega)).2.1 (by omega) (by omega)).1)
        rw [hz, Sum.elim_inl] at hsp
        exact ⟨16 - (x + 1), _, by omega, rfl, x + 1, y, by omega, rfl, rfl, by rw [← hT, hsp]⟩
    · left
      have : x = 16 := by omega
      subst this
      rw [if_neg (by decide)]
      refine ⟨_, rfl, ?_⟩
      rw [← hT]
      rfl) KF 16 ((0 : Int32), (0 : Int32), Cc) (KF_lt (by decide)) ⟨0, 0, by omega, rfl, rfl, rfl⟩
  rw [h1, h2]
theorem idx9 {i k : Nat} (hk : k < 1920) : (8 : Int32) * (nI i + nI k / (960 : Int32)) + nI k / (120 : Int32) % (8 : Int32) = nI (8 * (i + k / 960) + k / 120 % 8) := by
  rw [show nI k / (960 : Int32) = nI (k / 960) from nI_div (b := 960) (by omega) (by decide) (by decide), show nI k / (120 : Int32) = nI (k / 120) from nI_div (b := 120) (by omega) (by decide) (by decide), show nI (k / 120) % (8 : Int32) = nI (k / 120 % 8) from nI_mod (b := 8) (by omega) (by decide), nI_add, ix8']
theorem find9_all {b : Nat} {N : Nat → Int32} {Cc : Nat → Int64} {Cn : Nat → Int32} {My : Nat → Int64} {Mg Mn : Nat → Int32} (h : CP b N Cc Cn My Mg Mn) {i : Nat} (hi : i + 1 < b) (nd : ¬ Dk Cc i) (w : Int32) {M : Nat → Bool} (hM : ∀ k, M k = true ↔ PM Cc Cn b i (k / 960) (k / 120 % 8) (k / 10 % 12) (k % 10)) {fb fa : Int32} (hb : (fb = 1 ∧ 0 < i ∧ RT Cc Cn (i - 1)) ∨ (fb = 0 ∧ ¬ (0 < i ∧ RT Cc Cn (i - 1)))) (ha : (fa = 1 ∧ i + 2 < b ∧ RT Cc Cn (i + 1)) ∨ (fa = 0 ∧ ¬ (i + 2 < b ∧ RT Cc Cn (i + 1)))) (hand : Nat → Int64) : ∃ hand', itr (fX9_mend_L83 w (nI i) fb fa Mn Mg) KF ((0 : Int32), (0 : Int32), My, hand) = some (Sum.elim (fun y => .inl (y, My, hand')) (fun k => .inr (nI (i + k / 960), nI (k / 120 % 8), nI (k / 10 % 12), nI (k % 10), My, hand')) (fnd M w 1920 0 0)) := by
  have hb49 := h.2.1
  obtain ⟨e, h1, h2⟩ := itr_ex (f := fX9_mend_L83 w (nI i) fb fa Mn Mg) (fun m s => ∃ k y hd, k ≤ 1920 ∧ m = 1920 - k ∧ s = (y, nI k, My, hd) ∧ fnd M w (1920 - k) k y = fnd M w 1920 0 0) (fun e => ∃ hand', e = Sum.elim (fun y => .inl (y, My, hand')) (fun k => .inr (nI (i + k / 960), nI (k / 120 % 8), nI (k / 10 % 12), nI (k % 10), My, hand')) (fnd M w 1920 0 0)) (fun m s hI => by
    obtain ⟨k, y, hd, hk, rfl, rfl, hT⟩ := hI
    show (∃ e, fX9_mend_L83b w (nI i) fb fa Mn Mg y (nI k) My hd = some (.inr e) ∧ _) ∨ ∃ j' s', j' < 1920 - k ∧ fX9_mend_L83b w (nI i) fb fa Mn Mg y (nI k) My hd = some (.inl s') ∧ _
    unfold fX9_mend_L83b
    rcases Nat.lt_or_ge k 1920 with hk1 | hk1
    · have e1 : nI k / (10 : Int32) % (12 : Int32) = nI (k / 10 % 12) := by
        rw [show nI k / (10 : Int32) = nI (k / 10) from nI_div (b := 10) (by omega) (by decide) (by decide), show nI (k / 10) % (12 : Int32) = nI (k / 10 % 12) from nI_mod (b := 12) (by omega) (by decide)]
      have e2 : nI k % (10 : Int32) = nI (k % 10) := nI_mod (b := 10) (by omega) (by decide)
      have e3 : nI i + nI k / (960 : Int32) = nI (i + k / 960) := by
        rw [show nI k / (960 : Int32) = nI (k / 960) from nI_div (b := 960) (by omega) (by decide) (by decide), nI_add]
      have e4 : nI k / (120 : Int32) % (8 : Int32) = nI (k / 120 % 8) := by
        rw [show nI k / (120 : Int32) = nI (k / 120) from nI_div (b := 120) (by omega) (by decide) (by decide), show nI (k / 120) % (8 : Int32) = nI (k / 120 % 8) from nI_mod (b := 8) (by omega) (by decide)]
      have hidx : 8 * (i + k / 960) + k / 120 % 8 < 8 * b := by omega
      obtain ⟨n1, n2, n3⟩ := nd_cell h (t := k / 960) (row := k / 120 % 8) hi nd (by omega) (by omega)
      obtain ⟨q1, q2⟩ := nv_ok (d := k % 10) n2 (show k / 10 % 12 < 12 by omega) (by omega)
      have hC' := CP_new h hidx n1 q1
      rw [n3] at n2
      obtain ⟨sz, s1, s2⟩ := size9_toInt n2
      rw [if_pos (show nI k < (1920 : Int32) from nI_lt hk1 (by decide)), idx9 hk1, e1, e2, e3, e4, rdJ_n (by omega) (by decide)]
      simp only [Option.bind_some]
      rw [s1, digit9 n2 (by omega), ten9 _ (by omega)]
      simp only [Option.bind_some, nI_inc]
      have hs : fnd M w (1920 - k) k y = if M k = true then (if y = w then .inr k else fnd M w (1920 - (k + 1)) (k + 1) (y + 1)) else fnd M w (1920 - (k + 1)) (k + 1) y := by
        rw [show 1920 - k = (1920 - (k + 1)) + 1 by omega]
        rfl
      have hMk := hM k
      by_cases c : k % 10 = dgt (My (8 * (i + k / 960) + k / 120 % 8)) (k / 10 % 12)
      · right
        rw [if_pos (by rw [← c])]
        rw [if_neg (fun q => (hMk.mp q).1 (by rw [n3]; exact c))] at hs
        exact ⟨1920 - (k + 1), _, by omega, rfl, k + 1, y, hd, by omega, rfl, rfl, by rw [← hT, hs]⟩
      · have hg := dgt_lt (My (8 * (i + k / 960) + k / 120 % 8)) (k / 10 % 12)
        rw [if_neg (nI_ne c (by omega) (by omega))]
        rw [n3] at q2
        obtain ⟨r, hd', g1, g2⟩ := mends9_n hC' hi hidx hb ha hd
        have hr : (r = 1 ∧ M k = true) ∨ (r = 0 ∧ M k = false) := by
          rcases g2 with ⟨rfl, g2⟩ | ⟨rfl, g2⟩
          · exact Or.inl ⟨rfl, hMk.mpr ⟨by rw [n3]; exact c, g2⟩⟩
          · exact Or.inr ⟨rfl, Bool.eq_false_iff.mpr (fun q => g2 (hMk.mp q).2)⟩
        rw [n3] at g1
        by_cases cz : My (8 * (i + k / 960) + k / 120 % 8) < (0 : Int64)
        · rw [if_pos cz, (q2 sz s2).1 cz, g1]
          simp only [bn3, Option.bind_some]
          rcases hr with ⟨rfl, hr⟩ | ⟨rfl, hr⟩
          · rw [if_pos hr] at hs
            rw [i10]
            by_cases cy : y = w
            · left
              rw [if_pos cy] at hs ⊢
              exact ⟨_, rfl, hd', by rw [← hT, hs]; rfl⟩
            · right
              rw [if_neg cy] at hs ⊢
              exact ⟨1920 - (k + 1), _, by omega, rfl, k + 1, y + 1, hd', by omega, rfl, rfl, by rw [← hT, hs]⟩
          · right
            rw [if_neg (by rw [hr]; decide)] at hs
            rw [i00]
            exact ⟨1920 - (k + 1), _, by omega, rfl, k + 1, y, hd', by omega, rfl, rfl, by rw [← hT, hs]⟩
        · rw [if_neg cz, (q2 sz s2).2 cz, g1]
          simp only [bn3, Option.bind_some]
          rcases hr with ⟨rfl, hr⟩ | ⟨rfl, hr⟩
          · rw [if_pos hr] at hs
            rw [i10]
            by_cases cy : y = w
            · left
              rw [if_pos cy] at hs ⊢
              exact ⟨_, rfl, hd', by rw [← hT, hs]; rfl⟩
            · right
              rw [if_neg cy] at hs ⊢
              exact ⟨1920 - (k + 1), _, by omega, rfl, k + 1, y + 1, hd', by omega, rfl, rfl, by rw [← hT, hs]⟩
          · right
            rw [if_neg (by rw [hr]; decide)] at hs
            rw [i00]
            exact ⟨1920 - (k + 1), _, by omega, rfl, k + 1, y, hd', by omega, rfl, rfl, by rw [← hT, hs]⟩
    · left
      have : k = 1920 := by omega
      subst this
      rw [if_neg (by decide)]
      exact ⟨_, rfl, hd, by rw [← hT]; rfl⟩) KF 1920 ((0 : Int32), (0 : Int32), My, hand) (KF_lt (by decide)) ⟨0, 0, hand, by omega, rfl, rfl, rfl⟩
  obtain ⟨hand', rfl⟩ := h2
  exact ⟨hand', h1⟩
theorem isStep_n {b j : Nat} (hb : b ≤ 49) (hj : j < 100) : (j + 1 < b ∧ fX9_isStep (nI j) (nI b) = some 1) ∨ (¬ j + 1 < b ∧ fX9_isStep (nI j) (nI b) = some 0) := by
  unfold fX9_isStep
  rcases step_cases (nI j) hb with ⟨i, hi, e, c1, c2, h9⟩ | ⟨c, h9⟩
  · have : j = i := (nI_eq (by omega) (by omega)).mp e
    subst this
    rw [h9]
    exact Or.inl ⟨hi, rfl⟩
  · rw [h9]
    refine Or.inr ⟨fun q => ?_, rfl⟩
    rcases c with c | ⟨-, c⟩
    · exact nI_not_neg (by omega) c
    · exact c (nI_lt (by omega) (by omega))
theorem cod9 {i k : Nat} : ((100000 : Int32) * nI (i + k / 960) + (1000 : Int32) * nI (k / 120 % 8)) + (10 : Int32) * nI (k / 10 % 12) + nI (k % 10) = cod i k := by
  unfold cod
  rw [Int32.add_assoc, show (10 : Int32) * nI (k / 10 % 12) = nI (10 * (k / 10 % 12)) from nI_mul 10 _, nI_add, show 10 * (k / 10 % 12) + k % 10 = k % 120 by omega]
theorem B78_n {b : Nat} {N : Nat → Int32} {Cc : Nat → Int64} {Cn : Nat → Int32} {My : Nat → Int64} {Mg Mn : Nat → Int32} (h : CP b N Cc Cn My Mg Mn) {i : Nat} (hi : i + 1 < b) (nd : ¬ Dk Cc i) (w : Int32) {fb fa : Int32} (hb : (fb = 1 ∧ 0 < i ∧ RT Cc Cn (i - 1)) ∨ (fb = 0 ∧ ¬ (0 < i ∧ RT Cc Cn (i - 1)))) (ha : (fa = 1 ∧ i + 2 < b ∧ RT Cc Cn (i + 1)) ∨ (fa = 0 ∧ ¬ (i + 2 < b ∧ RT Cc Cn (i + 1)))) (hand : Nat → Int64) : ∃ r hand', (Option.bind (itr (fX1_findMend_L33 w (nI i) (nI b) Cn) KF ((0 : Int32), (0 : Int32), Cc)) (Sum.elim (un2 (fun x4_23 u_24 => if w = (-1 : Int32) then some (x4_23, u_24) else some ((-6 : Int32), u_24))) (un2 (fun rr_26 rr_27 => some (rr_26, rr_27))))) = some (r, Cc) ∧ fX9_mend_B78 w 0 (nI i) fb fa Mn My Mg hand = some (r, My, hand') := by
  obtain ⟨M, hM⟩ := bool_of (fun k => PM Cc Cn b i (k / 960) (k / 120 % 8) (k / 10 % 12) (k % 10))
  obtain ⟨hand', h9⟩ := find9_all h hi nd w hM hb ha hand
  unfold fX9_mend_B78
  rw [find8_all h hi nd w hM, h9]
  simp only [Option.bind_some]
  rcases fnd M w 1920 0 0 with y | k
  · simp only [Sum.elim_inl, un2, un3]
    by_cases c : w = -1
    · rw [if_pos c, if_pos c]
      exact ⟨y, hand', rfl, rfl⟩
    · rw [if_neg c, if_neg c]
      exact ⟨-6, hand', rfl, rfl⟩
  · simp only [Sum.elim_inr, un2, un6]
    rw [cod9]
    exact ⟨cod i k, hand', rfl, rfl⟩
theorem B48_n {b : Nat} {N : Nat → Int32} {Cc : Nat → Int64} {Cn : Nat → Int32} {My : Nat → Int64} {Mg Mn : Nat → Int32} (h : CP b N Cc Cn My Mg Mn) {i : Nat} (hi : i + 1 < b) (nd : ¬ Dk Cc i) (w : Int32) {fb : Int32} (hb : (fb = 1 ∧ 0 < i ∧ RT Cc Cn (i - 1)) ∨ (fb = 0 ∧ ¬ (0 < i ∧ RT Cc Cn (i - 1)))) (hand : Nat → Int64) : ∃ r hand', (Option.bind (itr (fX1_findMend_L33 w (nI i) (nI b) Cn) KF ((0 : Int32), (0 : Int32), Cc)) (Sum.elim (un2 (fun x4_23 u_24 => if w = (-1 : Int32) then some (x4_23, u_24) else some ((-6 : Int32), u_24))) (un2 (fun rr_26 rr_27 => some (rr_26, rr_27))))) = some (r, Cc) ∧ fX9_mend_B48 w 0 (nI i) fb (nI b) Mn My Mg hand = some (r, My, hand') := by
  have hb49 := h.2.1
  unfold fX9_mend_B48 fX9_mend_B77
  rw [nI_inc]
  rcases isStep_n (j := i + 1) hb49 (by omega) with ⟨a1, a2⟩ | ⟨a1, a2⟩
  · rw [a2]
    simp only [Option.bind_some, i10]
    obtain ⟨v, hd, g1, g2⟩ := rightOf_R h (i := i + 1) a1 hand
    rw [g1]
    simp only [bn2, Option.bind_some]
    rcases g2 with ⟨rfl, g2⟩ | ⟨g2, g3⟩
    · rw [if_pos rfl]
      exact B78_n h hi nd w hb (Or.inl ⟨rfl, a1, g2⟩) hd
    · rw [if_neg g2]
      exact B78_n h hi nd w hb (Or.inr ⟨rfl, fun q => g3 q.2⟩) hd
  · rw [a2]
    simp only [Option.bind_some, if_true]
    exact B78_n h hi nd w hb (Or.inr ⟨rfl, fun q => a1 q.1⟩) hand
theorem G_mend (p0 : Int32) {Xb Xc Xn Cb Cc Cn Mb Mc Mn Mh My Mg} (hand : Nat → Int64) (h : RC Xb Xc Xn Cb Cc Cn Mb Mc Mn Mh My Mg) : ∃ (r : Int32) (q2 : Nat → Int64), fX8_mend p0 Cb Cc Cn = some (r, Cc) ∧ fX9_mend p0 Mb Mh Mn My Mg hand = some (r, My, q2) := by
  obtain ⟨b, hw, hcc⟩ := id h
  obtain ⟨hb, rfl, rfl, hc, hn, hok⟩ := id hw
  unfold fX8_mend fX9_mend
  rcases hcc with ⟨rfl, rfl⟩ | ⟨rfl, h1, rfl, hcn, hcell⟩
  · rw [hasCopy_0, if_pos rfl]
    exact ⟨_, _, rfl, rfl⟩
  · rw [hasCopy_1 (by omega) h1]
    simp only [Option.bind_some, i10]
    have hP := CP_of hw h1 hcn hcell
    obtain ⟨r, hd, g1, g2, g3⟩ := blame_both hP hand
    unfold fX1_findMend
    rw [g1, g2]
    simp only [bn2, Option.bind_some]
    rcases g3 with rfl | ⟨i, hi, rfl, nd, -⟩
    · rw [if_pos rfl, if_neg (show ¬ (0 : Int32) < (-6 : Int32) by decide)]
      by_cases c : p0 = -1
      · rw [if_pos c, if_pos c]
        exact ⟨0, hd, rfl, rfl⟩
      · rw [if_neg c, if_neg c]
        exact ⟨-6, hd, rfl, rfl⟩
    · have hne : ¬ nI (i + 1) = (-6 : Int32) := fun q => by
        have e1 : (nI (i + 1)).toInt = (i + 1 : Nat) := nI_toInt (by omega)
        have e2 : (-6 : Int32).toInt = -6 := rfl
        rw [q, e2] at e1
        omega
      rw [if_neg hne, if_pos ((nI_p (by omega)).mpr (by omega)), nI_p1]
      have fin : ∀ (fb : Int32) (hand : Nat → Int64), ((fb = 1 ∧ 0 < i ∧ RT Cc Cn (i - 1)) ∨ (fb = 0 ∧ ¬ (0 < i ∧ RT Cc Cn (i - 1)))) → ∃ (r : Int32) (q2 : Nat → Int64), (Option.bind (Option.bind (itr (fX1_findMend_L33 p0 (nI i) (nI b) Cn) KF ((0 : Int32), (0 : Int32), Cc)) (Sum.elim (un2 (fun x4_23 u_24 => if p0 = (-1 : Int32) then some (x4_23, u_24) else some ((-6 : Int32), u_24))) (un2 (fun rr_26 rr_27 => some (rr_26, rr_27))))) (un2 fun r_4 w_5 => some (r_4, w_5))) = some (r, Cc) ∧ fX9_mend_B48 p0 0 (nI i) fb (nI b) Mn My Mg hand = some (r, My, q2) := by
        intro fb hand hfb
        obtain ⟨r, hd', k1, k2⟩ := B48_n hP hi nd p0 hfb hand
        rw [k1]
        exact ⟨r, hd', rfl, k2⟩
      rcases Nat.eq_zero_or_pos i with rfl | hi0
      · rw [if_neg (show ¬ (0 : Int32) < nI 0 by decide)]
        exact fin 0 hd (Or.inr ⟨rfl, fun q => absurd q.1 (by decide)⟩)
      · rw [if_pos ((nI_p (by omega)).mpr hi0), nI_b1 hi0]
        obtain ⟨v, hd2, g4, g5⟩ := rightOf_R hP (i := i - 1) (by omega) hd
        rw [g4]
        simp only [Option.bind_some]
        rcases g5 with ⟨rfl, g5⟩ | ⟨g5, g6⟩
        · rw [if_pos rfl]
          exact fin 1 hd2 (Or.inl ⟨rfl, hi0, g5⟩)
        · rw [if_neg g5]
          exact fin 0 hd2 (Or.inr ⟨rfl, fun q => g6 q.2⟩)
