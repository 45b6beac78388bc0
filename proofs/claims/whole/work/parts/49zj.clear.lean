/-! ===== clearing: exchange, search, the turns of one unknown ===== -/
theorem nI_m6 {j : Nat} (h : j < 2 ^ 31) : ¬ nI j = (-6 : Int32) := fun e => by
  have h1 : (nI j).toInt = (j : Int) := nI_toInt h
  have h2 : (-6 : Int32).toInt = -6 := rfl
  rw [e, h2] at h1
  omega
theorem exch_n {n p q : Nat} (hn : n ≤ 4) (hp : p < 5) (hq : q < 5) {X M : Nat → Int64} (hXM : ∀ c, c < 25 → M c = X c) (F : Nat → Int32) : ∃ X' M', fX0_exchange (nI p) (nI q) (nI n) X = some X' ∧ fX9_exchange (nI p) (nI q) (nI n) M F = some (M', upd (upd F p (F q)) q (F p)) ∧ (∀ c, c < 25 → M' c = X' c) ∧ (∀ i, i ≤ n → X' (5 * p + i) = X (5 * q + i) ∧ X' (5 * q + i) = X (5 * p + i)) ∧ ∀ c, c < 25 → (∀ i, i ≤ n → c ≠ 5 * p + i ∧ c ≠ 5 * q + i) → X' c = X c := by
  obtain ⟨e, e', h1, h2, h3⟩ := itr_rel (f := fX0_exchange_L2 (nI p) (nI q) (nI n)) (g := fX9_exchange_L2 (nI p) (nI q) (nI n))
    (fun m s r => ∃ u X' M', u ≤ n + 1 ∧ m = n + 1 - u ∧ s = (nI u, X') ∧ r = (nI u, M') ∧ (∀ c, c < 25 → M' c = X' c) ∧ (∀ i, i < u → X' (5 * p + i) = X (5 * q + i) ∧ X' (5 * q + i) = X (5 * p + i)) ∧ ∀ c, c < 25 → (∀ i, i < u → c ≠ 5 * p + i ∧ c ≠ 5 * q + i) → X' c = X c)
    (fun e e' => (∀ c, c < 25 → e' c = e c) ∧ (∀ i, i ≤ n → e (5 * p + i) = X (5 * q + i) ∧ e (5 * q + i) = X (5 * p + i)) ∧ ∀ c, c < 25 → (∀ i, i ≤ n → c ≠ 5 * p + i ∧ c ≠ 5 * q + i) → e c = X c)
    (fun m s r hI => by
      obtain ⟨u, X', M', hu, rfl, rfl, rfl, hXM', hdone, hrest⟩ := hI
      show (∃ e e', fX0_exchange_L2b (nI p) (nI q) (nI n) (nI u) X' = some (.inr e) ∧ fX9_exchange_L2b (nI p) (nI q) (nI n) (nI u) M' = some (.inr e') ∧ _) ∨ ∃ m' s' r', m' < n + 1 - u ∧ fX0_exchange_L2b (nI p) (nI q) (nI n) (nI u) X' = some (.inl s') ∧ fX9_exchange_L2b (nI p) (nI q) (nI n) (nI u) M' = some (.inl r') ∧ _
      unfold fX0_exchange_L2b fX9_exchange_L2b
      rcases Nat.lt_or_ge n u with hlt | hge
      · left
        rw [if_pos (nI_lt hlt (by omega)), if_pos (nI_lt hlt (by omega))]
        exact ⟨_, _, rfl, rfl, hXM', fun i hi => hdone i (by omega), fun c hc h => hrest c hc (fun i hi => h i (by omega))⟩
      · right
        have hp' : X' (5 * p + u) = X (5 * p + u) := hrest _ (by omega) (fun i hi => ⟨by omega, by omega⟩)
        have hq' : X' (5 * q + u) = X (5 * q + u) := hrest _ (by omega) (fun i hi => ⟨by omega, by omega⟩)
        rw [if_neg (nI_nlt hge (by omega)), if_neg (nI_nlt hge (by omega)), cell5 (by omega), cell5 (by omega), ix5', ix5', rdJ_n (by omega) (by decide), rdJ_n (by omega) (by decide), hXM' _ (by omega), hXM' _ (by omega), hp', hq']
        simp only [Option.bind_some]
        rw [put5 _ (by omega), wrJ_n _ (by omega) (by decide)]
        simp only [Option.bind_some]
        rw [put5 _ (by omega), wrJ_n _ (by omega) (by decide)]
        simp only [Option.bind_some, nI_inc]
        refine ⟨n + 1 - (u + 1), _, _, by omega, rfl, rfl, u + 1, _, _, by omega, rfl, rfl, rfl, fun c hc => ?_, fun i hi => ?_, fun c hc h => ?_⟩
        · by_cases e1 : c = 5 * q + u
          · subst e1; rw [updL_at, updL_at]
          · rw [updL_ne e1, updL_ne e1]
            by_cases e2 : c = 5 * p + u
            · subst e2; rw [updL_at, updL_at]
            · rw [updL_ne e2, updL_ne e2]; exact hXM' c hc
        · by_cases e : i = u
          · subst e
            refine ⟨?_, updL_at _ _ _⟩
            by_cases e2 : p = q
            · subst e2
              exact updL_at _ _ _
            · rw [updL_ne (by omega), updL_at]
          · rw [updL_ne (by omega), updL_ne (by omega), updL_ne (by omega), updL_ne (by omega)]
            exact hdone i (by omega)
        · obtain ⟨e1, e2⟩ := h u (by omega)
          rw [updL_ne e2, updL_ne e1]
          exact hrest c hc (fun i hi => h i (by omega))) KF (n + 1) ((0 : Int32), X) ((0 : Int32), M) (KF_lt (by omega)) ⟨0, X, M, by omega, rfl, rfl, rfl, hXM, fun i hi => absurd hi (by omega), fun _ _ _ => rfl⟩
  unfold fX0_exchange fX9_exchange
  rw [h1, h2, rdI_n hp (by decide), rdI_n hq (by decide)]
  simp only [Option.bind_some]
  rw [wrI_n _ hp (by decide)]
  simp only [Option.bind_some]
  rw [wrI_n _ hq (by decide)]
  exact ⟨e, e', rfl, rfl, h3⟩
theorem first_n {n m k t : Nat} (hn : n ≤ 4) (hk : k ≤ n) (hm : m ≤ 5) (ht : t ≤ m) {X M : Nat → Int64} (hXM : ∀ c, c < 25 → M c = X c) : (∃ j, t ≤ j ∧ j < m ∧ rw5 X j k ≠ 0 ∧ fX0_firstWith (nI k) (nI m) (nI t) X = some (nI j) ∧ itr (fX9_clear_L71 (nI t) (nI k) (nI m) M) KF (nI t) = some (nI j)) ∨ (fX0_firstWith (nI k) (nI m) (nI t) X = some (-6) ∧ itr (fX9_clear_L71 (nI t) (nI k) (nI m) M) KF (nI t) = some (nI m)) := by
  obtain ⟨e, e', h1, h2, h3⟩ := itr_rel (f := fX0_firstWith_L5 (nI k) (nI m) X) (g := fX9_clear_L71 (nI t) (nI k) (nI m) M)
    (fun u s r => ∃ j, t ≤ j ∧ j ≤ m ∧ u = m - j ∧ s = nI j ∧ r = nI j)
    (fun e e' => (∃ j, t ≤ j ∧ j < m ∧ rw5 X j k ≠ 0 ∧ e = .inr (nI j) ∧ e' = nI j) ∨ (e = .inl () ∧ e' = nI m))
    (fun u s r hI => by
      obtain ⟨j, hj1, hj2, rfl, rfl, rfl⟩ := hI
      show (∃ e e', fX0_firstWith_L5b (nI k) (nI m) X (nI j) = some (.inr e) ∧ fX9_clear_L71b (nI t) (nI k) (nI m) M (nI j) = some (.inr e') ∧ _) ∨ ∃ m' s' r', m' < m - j ∧ fX0_firstWith_L5b (nI k) (nI m) X (nI j) = some (.inl s') ∧ fX9_clear_L71b (nI t) (nI k) (nI m) M (nI j) = some (.inl r') ∧ _
      unfold fX0_firstWith_L5b fX9_clear_L71b
      rcases Nat.lt_or_ge j m with hlt | hge
      · rw [if_pos (nI_lt hlt (by omega)), if_pos (nI_lt hlt (by omega)), cell5 (by omega), ix5', rdJ_n (by omega) (by decide), hXM _ (by omega)]
        simp only [Option.bind_some]
        by_cases z : X (5 * j + k) = (0 : Int64)
        · right
          rw [if_pos z, if_pos z, nI_inc]
          exact ⟨m - (j + 1), _, _, by omega, rfl, rfl, j + 1, by omega, by omega, rfl, rfl, rfl⟩
        · left
          rw [if_neg z, if_neg z]
          refine ⟨_, _, rfl, rfl, Or.inl ⟨j, hj1, hlt, fun e => z (Int64.toInt_inj.mp e), rfl, rfl⟩⟩
      · left
        have : j = m := by omega
        subst this
        rw [if_neg (nI_nlt (Nat.le_refl _) (by omega)), if_neg (nI_nlt (Nat.le_refl _) (by omega))]
        exact ⟨_, _, rfl, rfl, Or.inr ⟨rfl, rfl⟩⟩) KF (m - t) (nI t) (nI t) (KF_lt (by omega)) ⟨t, Nat.le_refl _, ht, rfl, rfl, rfl⟩
  unfold fX0_firstWith
  rw [h1, h2]
  rcases h3 with ⟨j, j1, j2, j3, rfl, rfl⟩ | ⟨rfl, rfl⟩
  · exact Or.inl ⟨j, j1, j2, j3, rfl, rfl⟩
  · exact Or.inr ⟨rfl, rfl⟩
/-- how great a number may be told -/
def wW (n i : Nat) : Nat := if i < n then 50 else 9999
def Bd (t n : Nat) (row : Nat → Int) : Prop := ∀ i, i ≤ n → (row i).natAbs ≤ bL t * wW n i
theorem wW_le (n i : Nat) : wW n i ≤ 9999 := by
  unfold wW
  split <;> omega
theorem wW_k {n k : Nat} (h : k < n) : wW n k = 50 := if_pos h
theorem bL_le (t : Nat) : bL t ≤ 3000000 := by
  rcases t with _ | _ | _ | t
  · decide
  · decide
  · decide
  · exact Nat.le_refl _
theorem bL_mono {t : Nat} (h : t ≤ 2) : bL t ≤ bL (t + 1) := by
  rcases (show t = 0 ∨ t = 1 ∨ t = 2 by omega) with rfl | rfl | rfl <;> decide
theorem Bd_up {t n : Nat} {row : Nat → Int} (ht : t ≤ 2) (h : Bd t n row) : Bd (t + 1) n row := fun i hi =>
  Nat.le_trans (h i hi) (Nat.mul_le_mul_right _ (bL_mono ht))
theorem Bd_prod {t n k i : Nat} {x y : Nat → Int} (hk : k < n) (hi : i ≤ n) (hx : Bd t n x) (hy : Bd t n y) : (x i * y k).natAbs + (y i * x k).natAbs < 9223372036854775808 := by
  have b0 := bL_le t
  have w0 := wW_le n i
  have big : bL t * wW n i ≤ 3000000 * 9999 := Nat.mul_le_mul b0 w0
  have bigk : bL t * wW n k ≤ 3000000 * 50 := by rw [wW_k hk]; exact Nat.mul_le_mul_right _ b0
  have xi := hx i hi
  have yi := hy i hi
  have xk := hx k (by omega)
  have yk := hy k (by omega)
  have h1 : (x i * y k).natAbs ≤ 29997000000 * 150000000 := mul_bnd (by omega) (by omega)
  have h2 : (y i * x k).natAbs ≤ 29997000000 * 150000000 := mul_bnd (by omega) (by omega)
  omega
/-- what is told: the numbers, by columns -/
def Told (n : Nat) (A : Nat → Nat → Int) : Prop := ∀ j, j < 5 → ∀ i, i ≤ n → (A j i).natAbs ≤ wW n i
theorem mt_Bd {n t : Nat} {A : Nat → Nat → Int} {F C : Nat → Nat} (hA : Told n A) (ht : t ≤ 3) (hF : ∀ s, s < t → F s < 5) (hC : ∀ s, s < t → C s < n) {j : Nat} (hj : j < 5) : Bd t n (mt A F C t (A j)) := fun i hi =>
  mt_bnd (fun s s' hs hs' => by have := hA (F s) (hF s hs) (C s') (by have := hC s' hs'; omega); rw [wW_k (hC s' hs')] at this; exact this) (fun s hs => by have := hA j hj (C s) (by have := hC s hs; omega); rw [wW_k (hC s hs)] at this; exact this) (fun s hs => hA (F s) (hF s hs) i hi) (hA j hj i hi) ht
theorem rw5_congr {X X' : Nat → Int64} {n j j' : Nat} (h : ∀ i, i ≤ n → X' (5 * j + i) = X (5 * j' + i)) : ∀ i, i ≤ n → rw5 X' j i = rw5 X j' i := fun i hi => by
  unfold rw5
  rw [h i hi]
theorem Bd_congr {t n : Nat} {row row' : Nat → Int} (h : Bd t n row) (h1 : ∀ i, i ≤ n → row' i = row i) : Bd t n row' := fun i hi => by rw [h1 i hi]; exact h i hi
theorem behind_n {n m k t : Nat} (hn : n ≤ 4) (hk : k < n) (hm : m ≤ 5) (ht : t < m) (ht3 : t ≤ 3) {A : Nat → Nat → Int} {F C : Nat → Nat} (hA : Told n A) (hF : ∀ j, j < 5 → F j < 5) (hC : ∀ s, s ≤ t → C s < n) (hCt : C t = k) (hP : pt A F C t ≠ 0) {X M : Nat → Int64} (hXM : ∀ c, c < 25 → M c = X c) (hk0 : rw5 X t k ≠ 0) (hrow : ∀ j, t ≤ j → j < m → Prp n (rw5 X j) (mt A F C t (A (F j))) ∧ Bd t n (rw5 X j)) (tk : Int32) : ∃ tk' X' M', fX0_turnAllBehind (nI k) (nI n) (nI m) tk (nI t) X = some (tk', X') ∧ itr (fX9_clear_L134 (nI t) (nI k) (nI n) (nI m)) KF (nI t + (1 : Int32), tk, M) = some (tk', M') ∧ (∀ c, c < 25 → M' c = X' c) ∧ (∀ c, c < 5 * (t + 1) → X' c = X c) ∧ (t ≤ 2 → ∀ j, t < j → j < m → Prp n (rw5 X' j) (mt A F C (t + 1) (A (F j))) ∧ Bd (t + 1) n (rw5 X' j)) := by
  have hid : t ≤ 2 → ∀ j i, mt A F C t (A (F j)) i * mt A F C t (A (F t)) k - mt A F C t (A (F t)) i * mt A F C t (A (F j)) k = pt A F C t * mt A F C (t + 1) (A (F j)) i := fun h2 j i => by
    rw [← hCt]
    exact syl A F C h2 (A (F j)) i
  obtain ⟨e, e', h1, h2, h3⟩ := itr_rel (f := fX0_turnAllBehind_L7 (nI k) (nI n) (nI m) (nI t)) (g := fX9_clear_L134 (nI t) (nI k) (nI n) (nI m))
    (fun u s r => ∃ j tk X' M', t + 1 ≤ j ∧ j ≤ m ∧ u = m - j ∧ s = (nI j, tk, X') ∧ r = (nI j, tk, M') ∧ (∀ c, c < 25 → M' c = X' c) ∧ (∀ c, c < 25 → c < 5 * (t + 1) ∨ 5 * j ≤ c → X' c = X c) ∧ (t ≤ 2 → ∀ j', t < j' → j' < j → Prp n (rw5 X' j') (mt A F C (t + 1) (A (F j'))) ∧ Bd (t + 1) n (rw5 X' j')))
    (fun e e' => ∃ tk X' M', e = (tk, X') ∧ e' = (tk, M') ∧ (∀ c, c < 25 → M' c = X' c) ∧ (∀ c, c < 5 * (t + 1) → X' c = X c) ∧ (t ≤ 2 → ∀ j', t < j' → j' < m → Prp n (rw5 X' j') (mt A F C (t + 1) (A (F j'))) ∧ Bd (t + 1) n (rw5 X' j')))
    (fun u s r hI => by
      obtain ⟨j, tk, X', M', hj1, hj2, rfl, rfl, rfl, hXM', hrest, hdone⟩ := hI
      show (∃ e e', fX0_turnAllBehind_L7b (nI k) (nI n) (nI m) (nI t) (nI j) tk X' = some (.inr e) ∧ fX9_clear_L134b (nI t) (nI k) (nI n) (nI m) (nI j) tk M' = some (.inr e') ∧ _) ∨ ∃ m' s' r', m' < m - j ∧ fX0_turnAllBehind_L7b (nI k) (nI n) (nI m) (nI t) (nI j) tk X' = some (.inl s') ∧ fX9_clear_L134b (nI t) (nI k) (nI n) (nI m) (nI j) tk M' = some (.inl r') ∧ _
      unfold fX0_turnAllBehind_L7b fX9_clear_L134b
      rcases Nat.lt_or_ge j m with hlt | hge
      · right
        have hXj : ∀ i, i ≤ n → X' (5 * j + i) = X (5 * j + i) := fun i hi => hrest _ (by omega) (Or.inr (by omega))
        have hXt : ∀ i, i ≤ n → X' (5 * t + i) = X (5 * t + i) := fun i hi => hrest _ (by omega) (Or.inl (by omega))
        have rj := rw5_congr hXj
        have rt := rw5_congr hXt
        obtain ⟨pj, bj⟩ := hrow j (by omega) hlt
        obtain ⟨pt', bt⟩ := hrow t (Nat.le_refl _) ht
        rw [if_pos (nI_lt hlt (by omega)), if_pos (nI_lt hlt (by omega)), cell5 (by omega), ix5', rdJ_n (by omega) (by decide), hXM' _ (by omega)]
        simp only [Option.bind_some]
        by_cases z : X' (5 * j + k) = (0 : Int64)
        · rw [if_pos z, if_pos z, nI_inc]
          refine ⟨m - (j + 1), _, _, by omega, rfl, rfl, j + 1, tk, X', M', by omega, by omega, rfl, rfl, rfl, hXM', fun c hc h => hrest c hc (by omega), fun h2 j' q1 q2 => ?_⟩
          by_cases e : j' = j
          · subst e
            have hz : rw5 X j' k = 0 := by
              rw [← rj k (by omega)]
              unfold rw5
              rw [z]
              rfl
            exact ⟨Prp_congr (Prp_keep (by omega) pj pt' hP hk0 hz (fun i _ => hid h2 j' i)) rj (fun _ _ => rfl), Bd_congr (Bd_up h2 bj) rj⟩
          · exact hdone h2 j' q1 (by omega)
        · rw [if_neg z, if_neg z]
          obtain ⟨g, X2, M2, g1, g2, g3, g4, g5, g6, g7⟩ := turn_n (k := k) (j := j) (t := t) hn (by omega) (by omega) (by omega) (by omega) hXM' tk (fun i hi => by
            rw [rj i hi, rt i hi, rj k (by omega), rt k (by omega)]
            exact Bd_prod hk hi bj bt)
          rw [g1, g2]
          simp only [bn2, Option.bind_some, nI_inc]
          refine ⟨m - (j + 1), _, _, by omega, rfl, rfl, j + 1, tk + 1, X2, M2, by omega, by omega, rfl, rfl, rfl, g3, fun c hc h => ?_, fun h2 j' q1 q2 => ?_⟩
          · rw [g7 c hc (fun i hi => by omega)]
            exact hrest c hc (by omega)
          · by_cases e : j' = j
            · subst e
              have hP' : Prp n (rw5 X2 j') (mt A F C (t + 1) (A (F j'))) := Prp_turn (g := g) (k := k) (by omega) pj pt' hP hk0 (fun i _ => hid h2 j' i) (fun i hi => by
                rw [g4 i hi, rj i hi, rt i hi, rj k (by omega), rt k (by omega)]) g5
              refine ⟨hP', fun i hi => ?_⟩
              by_cases g0 : g = 0
              · rw [g5 g0 i hi]
                exact Nat.zero_le _
              · have hb := mt_Bd (t := t + 1) hA (by omega) (fun s hs => hF s (by omega)) (fun s hs => hC s (by omega)) (hF j' (by omega)) i hi
                exact Nat.le_trans (Prp_bnd hP' (g6 g0) hi) hb
            · have hsame := rw5_congr (n := n) (X := X') (X' := X2) (j := j') (j' := j') (fun i hi => g7 _ (by omega) (fun i' hi' => by omega))
              obtain ⟨d1, d2⟩ := hdone h2 j' q1 (by omega)
              exact ⟨Prp_congr d1 hsame (fun _ _ => rfl), Bd_congr d2 hsame⟩
      · left
        have : j = m := by omega
        subst this
        rw [if_neg (nI_nlt (Nat.le_refl _) (by omega)), if_neg (nI_nlt (Nat.le_refl _) (by omega))]
        exact ⟨_, _, rfl, rfl, tk, X', M', rfl, rfl, hXM', fun c hc => hrest c (by omega) (Or.inl hc), hdone⟩) KF (m - (t + 1)) (nI (t + 1), tk, X) (nI (t + 1), tk, M) (KF_lt (by omega)) ⟨t + 1, tk, X, M, Nat.le_refl _, by omega, rfl, rfl, rfl, hXM, fun _ _ _ => rfl, fun _ j' q1 q2 => absurd q1 (by omega)⟩
  obtain ⟨tk', X', M', rfl, rfl, h3⟩ := h3
  unfold fX0_turnAllBehind
  rw [nI_inc, h1, h2]
  exact ⟨tk', X', M', rfl, rfl, h3⟩
