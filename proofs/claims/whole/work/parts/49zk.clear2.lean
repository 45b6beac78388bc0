/-! ===== clearing: the whole ===== -/
theorem bits_up : ∀ k, k < 4 → ∀ b, b < 2 ^ k → ((b + 2 ^ k) / 2 ^ k % 2 = 1 ∧ ∀ k', k' < k → (b + 2 ^ k) / 2 ^ k' % 2 = b / 2 ^ k' % 2) := by decide +kernel
theorem bits_or : ∀ k, k < 4 → ∀ b, b < 2 ^ k → (nI b ||| ((1 : Int32) <<< (nI k &&& (31 : Int32)))) = nI (b + 2 ^ k) := by decide +kernel
theorem bits_rd : ∀ k, k < 4 → ∀ b, b < 16 → ((nI b >>> (nI k &&& (31 : Int32))) &&& (1 : Int32)) = nI (b / 2 ^ k % 2) := by decide +kernel
def CL (n m : Nat) (A : Nat → Nat → Int) (F C : Nat → Nat) (k t b : Nat) (X : Nat → Int64) (fr : Nat → Int32) : Prop := t ≤ k ∧ t ≤ m ∧ (∀ j, j < 5 → F j < 5) ∧ (∀ s, s < t → C s < k) ∧ pt A F C t ≠ 0 ∧ b < 2 ^ k ∧ (∀ k', k' < k → fr k' = nI (b / 2 ^ k' % 2)) ∧ (b = 0 ∧ t = k ∧ (∀ s, s < t → C s = s) ∨ b ≠ 0 ∧ t < k) ∧ (∀ s, s < t → Prp n (rw5 X s) (mt A F C s (A (F s))) ∧ Bd s n (rw5 X s) ∧ rw5 X s (C s) ≠ 0) ∧ (t ≤ 3 → ∀ j, t ≤ j → j < m → Prp n (rw5 X j) (mt A F C t (A (F j))) ∧ Bd t n (rw5 X j))
theorem CL_free {n m : Nat} {A : Nat → Nat → Int} {F C : Nat → Nat} {k t b : Nat} {X : Nat → Int64} {fr : Nat → Int32} (h : CL n m A F C k t b X fr) (hk : k < 4) : CL n m A F C (k + 1) t (b + 2 ^ k) X (upd fr k 1) := by
  obtain ⟨h1, h2, h3, h4, h5, h6, h7, h8, h9, h10⟩ := h
  obtain ⟨b1, b2⟩ := bits_up k hk b h6
  have hp : 0 < 2 ^ k := Nat.two_pow_pos k
  refine ⟨by omega, h2, h3, fun s hs => by have := h4 s hs; omega, h5, by rw [Nat.pow_succ]; omega, fun k' hk' => ?_, Or.inr ⟨by omega, by omega⟩, h9, h10⟩
  by_cases e : k' = k
  · subst e; rw [upd_at, b1]; rfl
  · rw [upd_ne e, b2 k' (by omega)]; exact h7 k' (by omega)
theorem CL_pivot {n m : Nat} (hn : n ≤ 4) (hm : m ≤ 5) {A : Nat → Nat → Int} (hA : Told n A) {F C : Nat → Nat} {k t b j : Nat} {X M : Nat → Int64} {fr fm : Nat → Int32} (h : CL n m A F C k t b X fr) (hk : k < n) (hj1 : t ≤ j) (hj2 : j < m) (hjk : rw5 X j k ≠ 0) (hXM : ∀ c, c < 25 → M c = X c) (hfm : ∀ q, q < 5 → fm q = nI (F q)) (tk : Int32) : ∃ X1 M1 tk' X2 M2 F1 C1, fX0_exchange (nI j) (nI t) (nI n) X = some X1 ∧ fX9_exchange (nI j) (nI t) (nI n) M fm = some (M1, upd (upd fm j (fm t)) t (fm j)) ∧ fX0_turnAllBehind (nI k) (nI n) (nI m) tk (nI t) X1 = some (tk', X2) ∧ itr (fX9_clear_L134 (nI t) (nI k) (nI n) (nI m)) KF (nI t + (1 : Int32), tk, M1) = some (tk', M2) ∧ (∀ c, c < 25 → M2 c = X2 c) ∧ (∀ q, q < 5 → upd (upd fm j (fm t)) t (fm j) q = nI (F1 q)) ∧ CL n m A F1 C1 (k + 1) (t + 1) b X2 (upd fr k 0) := by
  obtain ⟨h1, h2, h3, h4, h5, h6, h7, h8, h9, h10⟩ := h
  obtain ⟨X1, M1, x1, x2, x3, x4, x5⟩ := exch_n hn (show j < 5 by omega) (show t < 5 by omega) hXM fm
  obtain ⟨F1, hF1⟩ : ∃ F1, F1 = upN (upN F j (F t)) t (F j) := ⟨_, rfl⟩
  obtain ⟨C1, hC1⟩ : ∃ C1, C1 = upN C t k := ⟨_, rfl⟩
  have ht3 : t ≤ 3 := by omega
  have fT : F1 t = F j := by rw [hF1, upN_at]
  have fJ : j ≠ t → F1 j = F t := fun e => by rw [hF1, upN_ne e, upN_at]
  have fO : ∀ q, q ≠ t → q ≠ j → F1 q = F q := fun q e1 e2 => by rw [hF1, upN_ne e1, upN_ne e2]
  have hFlt : ∀ q, q < 5 → F1 q < 5 := fun q hq => by
    by_cases e1 : q = t
    · subst e1; rw [fT]; exact h3 j (by omega)
    · by_cases e2 : q = j
      · subst e2; rw [fJ e1]; exact h3 t (by omega)
      · rw [fO q e1 e2]; exact h3 q hq
  have cT : C1 t = k := by rw [hC1, upN_at]
  have cO : ∀ s, s < t → C1 s = C s := fun s hs => by rw [hC1, upN_ne (by omega)]
  have hsame : ∀ s, s < t → F1 s = F s ∧ C1 s = C s := fun s hs => ⟨fO s (by omega) (by omega), cO s hs⟩
  have hmt : ∀ r i, mt A F1 C1 t r i = mt A F C t r i := fun r i => mt_congr ht3 hsame r i
  have rT : ∀ i, i ≤ n → rw5 X1 t i = rw5 X j i := rw5_congr (fun i hi => (x4 i hi).2)
  have rJ : ∀ i, i ≤ n → rw5 X1 j i = rw5 X t i := rw5_congr (fun i hi => (x4 i hi).1)
  have rO : ∀ q, q < 5 → q ≠ t → q ≠ j → ∀ i, i ≤ n → rw5 X1 q i = rw5 X q i := fun q hq e1 e2 => rw5_congr (fun i hi => x5 _ (by omega) (fun i' hi' => ⟨by omega, by omega⟩))
  have hrow : ∀ q, t ≤ q → q < m → Prp n (rw5 X1 q) (mt A F1 C1 t (A (F1 q))) ∧ Bd t n (rw5 X1 q) := fun q q1 q2 => by
    by_cases e1 : q = t
    · subst e1
      obtain ⟨y1, y2⟩ := h10 ht3 j hj1 hj2
      rw [fT]
      exact ⟨Prp_congr y1 rT (fun i _ => hmt _ i), Bd_congr y2 rT⟩
    · by_cases e2 : q = j
      · subst e2
        obtain ⟨y1, y2⟩ := h10 ht3 t (Nat.le_refl _) (by omega)
        rw [fJ e1]
        exact ⟨Prp_congr y1 rJ (fun i _ => hmt _ i), Bd_congr y2 rJ⟩
      · obtain ⟨y1, y2⟩ := h10 ht3 q q1 q2
        rw [fO q e1 e2]
        exact ⟨Prp_congr y1 (rO q (by omega) e1 e2) (fun i _ => hmt _ i), Bd_congr y2 (rO q (by omega) e1 e2)⟩
  have hk0 : rw5 X1 t k ≠ 0 := by rw [rT k (by omega)]; exact hjk
  have hP : pt A F1 C1 t ≠ 0 := by rw [pt_congr (by omega) hsame]; exact h5
  obtain ⟨tk', X2, M2, z1, z2, z3, z4, z5⟩ := behind_n hn hk hm (show t < m by omega) ht3 hA hFlt (fun s hs => by
    by_cases e : s = t
    · subst e; rw [cT]; exact hk
    · rw [cO s (by omega)]; have := h4 s (by omega); omega) cT hP x3 hk0 hrow tk
  have r2 : ∀ s, s ≤ t → ∀ i, i ≤ n → rw5 X2 s i = rw5 X1 s i := fun s hs => rw5_congr (fun i hi => z4 _ (by omega))
  refine ⟨X1, M1, tk', X2, M2, F1, C1, x1, x2, z1, z2, z3, fun q hq => ?_, by omega, by omega, hFlt, fun s hs => ?_, ?_, by rw [Nat.pow_succ]; omega, fun k' hk' => ?_, ?_, fun s hs => ?_, fun ht2 q q1 q2 => z5 (by omega) q (by omega) q2⟩
  · by_cases e1 : q = t
    · subst e1; rw [upd_at, fT]; exact hfm j (by omega)
    · rw [upd_ne e1]
      by_cases e2 : q = j
      · subst e2; rw [upd_at, fJ e1]; exact hfm t (by omega)
      · rw [upd_ne e2, fO q e1 e2]; exact hfm q hq
  · by_cases e : s = t
    · subst e; rw [cT]; omega
    · rw [cO s (by omega)]; have := h4 s (by omega); omega
  · show mt A F1 C1 t (A (F1 t)) (C1 t) ≠ 0
    rw [cT]
    exact Prp_nz (by omega) (hrow t (Nat.le_refl _) (by omega)).1 hk0
  · by_cases e : k' = k
    · subst e
      rw [upd_at, Nat.div_eq_of_lt h6]
      rfl
    · rw [upd_ne e]; exact h7 k' (by omega)
  · rcases h8 with ⟨e1, e2, e3⟩ | ⟨e1, e2⟩
    · refine Or.inl ⟨e1, by omega, fun s hs => ?_⟩
      by_cases e : s = t
      · subst e; rw [cT]; exact e2.symm
      · rw [cO s (by omega)]; exact e3 s (by omega)
    · exact Or.inr ⟨e1, by omega⟩
  · by_cases e : s = t
    · subst e
      obtain ⟨y1, y2⟩ := hrow s (Nat.le_refl _) (by omega)
      refine ⟨Prp_congr y1 (r2 s (Nat.le_refl _)) (fun _ _ => rfl), Bd_congr y2 (r2 s (Nat.le_refl _)), ?_⟩
      rw [cT, r2 s (Nat.le_refl _) k (by omega)]
      exact hk0
    · have hst : s < t := by omega
      obtain ⟨y1, y2, y3⟩ := h9 s hst
      have hrs : ∀ i, i ≤ n → rw5 X2 s i = rw5 X s i := fun i hi => by rw [r2 s (by omega) i hi, rO s (by omega) (by omega) (by omega) i hi]
      obtain ⟨e1, e2⟩ := hsame s hst
      refine ⟨Prp_congr y1 hrs (fun i _ => ?_), Bd_congr y2 hrs, ?_⟩
      · rw [e1]
        exact mt_congr (by omega) (fun s' hs' => hsame s' (by omega)) _ i
      · have := h4 s hst
        rw [e2, hrs _ (by omega)]
        exact y3
theorem clr8_copy (g : Nat → Int32) (X : Nat → Int64) : ∃ e, itr (fX0_clear_L2 g) KF ((0 : Int32), X) = some e ∧ ∀ c, c < 25 → e c = (g c).toInt64 :=
  itr_ex (f := fX0_clear_L2 g) (fun u s => ∃ j, j ≤ 25 ∧ u = 25 - j ∧ s.1 = nI j ∧ ∀ c, c < j → s.2 c = (g c).toInt64) (fun e => ∀ c, c < 25 → e c = (g c).toInt64) (fun u s hI => by
    obtain ⟨x, f⟩ := s
    obtain ⟨j, hj, rfl, hx, hg⟩ := hI
    dsimp only at hx hg
    subst hx
    show (∃ e, fX0_clear_L2b g (nI j) f = some (.inr e) ∧ _) ∨ ∃ j' s', j' < 25 - j ∧ fX0_clear_L2b g (nI j) f = some (.inl s') ∧ _
    unfold fX0_clear_L2b
    rcases Nat.lt_or_ge j 25 with h | h
    · right
      rw [if_pos (lt25 h), if_pos (lt25 h), rdI_n h (by decide)]
      simp only [Option.bind_some]
      rw [wrJ_n _ h (by decide)]
      simp only [Option.bind_some, nI_inc]
      refine ⟨25 - (j + 1), _, by omega, rfl, j + 1, by omega, rfl, rfl, fun c hc => ?_⟩
      by_cases e : c = j
      · subst e; exact updL_at _ _ _
      · show vp_updL f j _ c = _
        rw [updL_ne e]; exact hg c (by omega)
    · left
      have : j = 25 := by omega
      subst this
      rw [if_neg (by decide)]
      exact ⟨_, rfl, hg⟩) KF 25 ((0 : Int32), X) (KF_lt (by decide)) ⟨0, by omega, rfl, rfl, fun c hc => absurd hc (by omega)⟩
theorem clr9_copy (g : Nat → Int32) (X : Nat → Int64) : ∃ e, itr (fX9_clear_L2 g) KF ((0 : Int32), X) = some e ∧ ∀ c, c < 25 → e c = (g c).toInt64 :=
  itr_ex (f := fX9_clear_L2 g) (fun u s => ∃ j, j ≤ 25 ∧ u = 25 - j ∧ s.1 = nI j ∧ ∀ c, c < j → s.2 c = (g c).toInt64) (fun e => ∀ c, c < 25 → e c = (g c).toInt64) (fun u s hI => by
    obtain ⟨x, f⟩ := s
    obtain ⟨j, hj, rfl, hx, hg⟩ := hI
    dsimp only at hx hg
    subst hx
    show (∃ e, fX9_clear_L2b g (nI j) f = some (.inr e) ∧ _) ∨ ∃ j' s', j' < 25 - j ∧ fX9_clear_L2b g (nI j) f = some (.inl s') ∧ _
    unfold fX9_clear_L2b
    rcases Nat.lt_or_ge j 25 with h | h
    · right
      rw [if_pos (lt25 h), rdI_n h (by decide)]
      simp only [Option.bind_some]
      rw [wrJ_n _ h (by decide)]
      simp only [Option.bind_some, nI_inc]
      refine ⟨25 - (j + 1), _, by omega, rfl, j + 1, by omega, rfl, rfl, fun c hc => ?_⟩
      by_cases e : c = j
      · subst e; exact updL_at _ _ _
      · show vp_updL f j _ c = _
        rw [updL_ne e]; exact hg c (by omega)
    · left
      have : j = 25 := by omega
      subst this
      rw [if_neg (by decide)]
      exact ⟨_, rfl, hg⟩) KF 25 ((0 : Int32), X) (KF_lt (by decide)) ⟨0, by omega, rfl, rfl, fun c hc => absurd hc (by omega)⟩
theorem clr9_from (f : Nat → Int32) : ∃ e, itr (fX9_clear_L29) KF ((0 : Int32), f) = some e ∧ ∀ c, c < 5 → e c = nI c :=
  itr_ex (f := fX9_clear_L29) (fun u s => ∃ j, j ≤ 5 ∧ u = 5 - j ∧ s.1 = nI j ∧ ∀ c, c < j → s.2 c = nI c) (fun e => ∀ c, c < 5 → e c = nI c) (fun u s hI => by
    obtain ⟨x, f⟩ := s
    obtain ⟨j, hj, rfl, hx, hg⟩ := hI
    dsimp only at hx hg
    subst hx
    show (∃ e, fX9_clear_L29b (nI j) f = some (.inr e) ∧ _) ∨ ∃ j' s', j' < 5 - j ∧ fX9_clear_L29b (nI j) f = some (.inl s') ∧ _
    unfold fX9_clear_L29b
    rcases Nat.lt_or_ge j 5 with h | h
    · right
      rw [if_pos (show nI j < (5 : Int32) from nI_lt (b := 5) h (by decide)), wrI_n _ h (by decide)]
      simp only [Option.bind_some, nI_inc]
      refine ⟨5 - (j + 1), _, by omega, rfl, j + 1, by omega, rfl, rfl, fun c hc => ?_⟩
      by_cases e : c = j
      · subst e; exact upd_at _ _ _
      · show upd f j _ c = _
        rw [upd_ne e]; exact hg c (by omega)
    · left
      have : j = 5 := by omega
      subst this
      rw [if_neg (by decide)]
      exact ⟨_, rfl, hg⟩) KF 5 ((0 : Int32), f) (KF_lt (by decide)) ⟨0, by omega, rfl, rfl, fun c hc => absurd hc (by omega)⟩
theorem clear_n {n m : Nat} (hn1 : 1 ≤ n) (hn : n ≤ 4) (hm1 : 1 ≤ m) (hm : m ≤ 5) {A : Nat → Nat → Int} (hA : Told n A) {g tl : Nat → Int32} (hg : ∀ c, c < 25 → tl c = g c) (hgA : ∀ j, j < 5 → ∀ i, i ≤ n → (g (5 * j + i)).toInt = A j i) (a1 a2 : Int32) (X0 : Nat → Int64) (fr0 : Nat → Int32) (b1 b2 b3 : Int32) (M0 : Nat → Int64) (fm0 : Nat → Int32) : ∃ tk t b X' fr M' fm F C, fX0_clear (nI n) (nI m) a1 a2 g X0 fr0 = some (tk, nI t, X', fr) ∧ fX9_clear (nI n) (nI m) b1 b2 b3 tl M0 fm0 = some (tk, nI t, nI b, M', fm) ∧ (∀ c, c < 25 → M' c = X' c) ∧ (∀ q, q < 5 → fm q = nI (F q)) ∧ CL n m A F C n t b X' fr := by
  obtain ⟨X1, c1, c2⟩ := clr8_copy g X0
  obtain ⟨M1, d1, d2⟩ := clr9_copy tl M0
  obtain ⟨f1, f2, f3⟩ := clr9_from fm0
  obtain ⟨e, e', h1, h2, h3⟩ := itr_rel (f := fX0_clear_L51 (nI n) (nI m)) (g := fX9_clear_L61 (nI n) (nI m))
    (fun u s r => ∃ k t b tk X M fr fm F C, k ≤ n ∧ u = n - k ∧ s = (nI k, tk, nI t, X, fr) ∧ r = (nI t, nI k, tk, nI b, M, fm) ∧ (∀ c, c < 25 → M c = X c) ∧ (∀ q, q < 5 → fm q = nI (F q)) ∧ CL n m A F C k t b X fr)
    (fun e e' => ∃ t b tk X M fr fm F C, e = (tk, nI t, X, fr) ∧ e' = (nI t, tk, nI b, M, fm) ∧ (∀ c, c < 25 → M c = X c) ∧ (∀ q, q < 5 → fm q = nI (F q)) ∧ CL n m A F C n t b X fr)
    (fun u s r hI => by
      obtain ⟨k, t, b, tk, X, M, fr, fm, F, C, hk, rfl, rfl, rfl, hXM, hfm, hCL⟩ := hI
      show (∃ e e', fX0_clear_L51b (nI n) (nI m) (nI k) tk (nI t) X fr = some (.inr e) ∧ fX9_clear_L61b (nI n) (nI m) (nI t) (nI k) tk (nI b) M fm = some (.inr e') ∧ _) ∨ ∃ m' s' r', m' < n - k ∧ fX0_clear_L51b (nI n) (nI m) (nI k) tk (nI t) X fr = some (.inl s') ∧ fX9_clear_L61b (nI n) (nI m) (nI t) (nI k) tk (nI b) M fm = some (.inl r') ∧ _
      unfold fX0_clear_L51b fX9_clear_L61b
      rcases Nat.lt_or_ge k n with hlt | hge
      · right
        have htm : t ≤ m := hCL.2.1
        rw [if_pos (nI_lt hlt (by omega)), if_pos (nI_lt hlt (by omega)), if_pos (show nI k < (4 : Int32) from nI_lt (b := 4) (by omega) (by decide))]
        rcases first_n hn (show k ≤ n by omega) hm htm hXM with ⟨j, j1, j2, j3, j4, j5⟩ | ⟨j4, j5⟩
        · obtain ⟨X1, M1, tk', X2, M2, F1, C1, y1, y2, y3, y4, y5, y6, y7⟩ := CL_pivot hn hm hA hCL hlt j1 j2 j3 hXM hfm tk
          rw [j4, j5]
          simp only [Option.bind_some]
          rw [if_neg (nI_m6 (by omega)), wrZ_n _ (by omega) (by decide), if_pos (nI_lt j2 (by omega))]
          simp only [Option.bind_some]
          rw [if_neg (nI_m6 (by omega)), y1, y2]
          simp only [Option.bind_some, bn2]
          rw [y3, y4]
          simp only [Option.bind_some, bn2, nI_inc]
          exact ⟨n - (k + 1), _, _, by omega, rfl, rfl, k + 1, t + 1, b, tk', X2, M2, upd fr k 0, _, F1, C1, by omega, rfl, rfl, rfl, y5, y6, y7⟩
        · rw [j4, j5]
          simp only [Option.bind_some]
          rw [if_pos trivial, wrZ_n _ (by omega) (by decide), if_neg (nI_nlt (Nat.le_refl _) (by omega)), bits_or k (by omega) b hCL.2.2.2.2.2.1]
          simp only [Option.bind_some]
          rw [if_pos trivial]
          simp only [nI_inc]
          exact ⟨n - (k + 1), _, _, by omega, rfl, rfl, k + 1, t, b + 2 ^ k, tk, X, M, upd fr k 1, fm, F, C, by omega, rfl, rfl, rfl, hXM, hfm, CL_free hCL (by omega)⟩
      · left
        have : k = n := by omega
        subst this
        rw [if_neg (nI_nlt (Nat.le_refl _) (by omega)), if_neg (nI_nlt (Nat.le_refl _) (by omega))]
        exact ⟨_, _, rfl, rfl, t, b, tk, X, M, fr, fm, F, C, rfl, rfl, hXM, hfm, hCL⟩) KF n ((0 : Int32), (0 : Int32), (0 : Int32), X1, fr0) ((0 : Int32), (0 : Int32), (0 : Int32), (0 : Int32), M1, f1) (KF_lt (by omega)) ⟨0, 0, 0, 0, X1, M1, fr0, f1, fun j => j, fun _ => 0, by omega, rfl, rfl, rfl, fun c hc => by rw [d2 c hc, c2 c hc, hg c hc], f3, by
        refine ⟨by omega, by omega, fun j hj => hj, fun s hs => absurd hs (by omega), (show (1 : Int) ≠ 0 by decide), (show (0 : Nat) < 2 ^ 0 by decide), fun k' hk' => absurd hk' (by omega), Or.inl ⟨rfl, rfl, fun s hs => absurd hs (by omega)⟩, fun s hs => absurd hs (by omega), fun _ j _ hj => ?_⟩
        have hrow : ∀ i, i ≤ n → rw5 X1 j i = A j i := fun i hi => by
          unfold rw5
          rw [c2 _ (by omega), t32_to64]
          exact hgA j (by omega) i hi
        refine ⟨⟨1, 1, by decide, by decide, fun i hi => ?_⟩, fun i hi => ?_⟩
        · rw [hrow i hi]
          rfl
        · rw [hrow i hi]
          show (A j i).natAbs ≤ 1 * wW n i
          rw [Nat.one_mul]
          exact hA j (by omega) i hi⟩
  obtain ⟨t, b, tk, X, M, fr, fm, F, C, rfl, rfl, q1, q2, q3⟩ := h3
  unfold fX0_clear fX0_clear_B39 fX9_clear
  rw [c1, d1, f2]
  simp only [Option.bind_some]
  rw [h1, h2]
  exact ⟨tk, t, b, X, fr, M, fm, F, C, rfl, rfl, q1, q2, q3⟩
