/-! ===== mend: one try ===== -/
def PM (Cc : Nat → Int64) (Cn : Nat → Int32) (b i t row p d : Nat) : Prop := d ≠ dgt (Cc (8 * (i + t) + row)) p ∧ RT (vp_updL Cc (8 * (i + t) + row) (nv (Cc (8 * (i + t) + row)) p d)) Cn i ∧ (0 < i → RT Cc Cn (i - 1) → RT (vp_updL Cc (8 * (i + t) + row) (nv (Cc (8 * (i + t) + row)) p d)) Cn (i - 1)) ∧ (i + 2 < b → RT Cc Cn (i + 1) → RT (vp_updL Cc (8 * (i + t) + row) (nv (Cc (8 * (i + t) + row)) p d)) Cn (i + 1))
theorem nd_upd {Cc : Nat → Int64} {i k : Nat} {v : Int64} (nd : ¬ Dk Cc i) (hv : Fit v) : ¬ Dk (vp_updL Cc k v) i := by
  have : ∀ j, vp_updL Cc k v j = LOSTv → Cc j = LOSTv := by
    intro j q
    by_cases e : j = k
    · subst e; rw [updL_at] at q; exact absurd q (lost_not_fit hv)
    · rw [updL_ne e] at q; exact q
  rintro (⟨r, hr, q⟩ | ⟨r, hr, q⟩)
  · exact nd (Or.inl ⟨r, hr, this _ q⟩)
  · exact nd (Or.inr ⟨r, hr, this _ q⟩)
theorem nd_cell {b : Nat} {N : Nat → Int32} {Cc : Nat → Int64} {Cn : Nat → Int32} {My : Nat → Int64} {Mg Mn : Nat → Int32} (h : CP b N Cc Cn My Mg Mn) {i t row : Nat} (hi : i + 1 < b) (nd : ¬ Dk Cc i) (ht : t < 2) (hr : row < 8) : ¬ Cc (8 * (i + t) + row) = LOSTv ∧ Fit (Cc (8 * (i + t) + row)) ∧ Cc (8 * (i + t) + row) = My (8 * (i + t) + row) := by
  have h1 : ¬ Cc (8 * (i + t) + row) = LOSTv := by
    have : t = 0 ∨ t = 1 := by omega
    rcases this with rfl | rfl
    · exact fun q => nd (Or.inl ⟨row, hr, q⟩)
    · exact fun q => nd (Or.inr ⟨row, hr, q⟩)
  refine ⟨h1, ?_⟩
  have hk : 8 * (i + t) + row < 8 * b := by omega
  rcases CP_gap h hk with ⟨-, -, q⟩ | ⟨-, q⟩
  · exact ⟨by rw [q]; exact (h.2.2.2.2 _ hk).1, q⟩
  · exact absurd q h1
theorem mends8_n {b : Nat} {N : Nat → Int32} {Cc : Nat → Int64} {Cn : Nat → Int32} {My : Nat → Int64} {Mg Mn : Nat → Int32} (h : CP b N Cc Cn My Mg Mn) {i t row p d : Nat} (hi : i + 1 < b) (nd : ¬ Dk Cc i) (ht : t < 2) (hr : row < 8) (hp : p < 12) (hd : d < 10) : (fX1_mends (nI i) (nI (i + t)) (nI row) (nI p) (nI d) (nI b) Cc Cn = some (1, Cc) ∧ PM Cc Cn b i t row p d) ∨ (fX1_mends (nI i) (nI (i + t)) (nI row) (nI p) (nI d) (nI b) Cc Cn = some (0, Cc) ∧ ¬ PM Cc Cn b i t row p d) := by
  have hb := h.2.1
  obtain ⟨n1, n2, n3⟩ := nd_cell h hi nd ht hr
  have hv := (nv_ok (d := d) n2 hp hd).1
  have h' := CP_new h (k := 8 * (i + t) + row) (by omega) n1 hv
  have nd' := nd_upd (k := 8 * (i + t) + row) nd hv
  unfold fX1_mends
  rw [cell_n (by omega)]
  simp only [Option.bind_some]
  rw [digit8 n2 hp]
  simp only [Option.bind_some]
  by_cases c : d = dgt (Cc (8 * (i + t) + row)) p
  · right
    rw [if_pos (by rw [← c])]
    exact ⟨rfl, fun q => q.1 c⟩
  · have hg := dgt_lt (Cc (8 * (i + t) + row)) p
    rw [if_neg (nI_ne c (by omega) (by omega))]
    have t01 : t = 0 ∨ t = 1 := by omega
    rcases t01 with rfl | rfl
    · rw [if_pos (by rfl)]
      have auto : ∀ q : i + 2 < b, RT Cc Cn (i + 1) → RT (vp_updL Cc (8 * (i + 0) + row) (nv (Cc (8 * (i + 0) + row)) p d)) Cn (i + 1) := fun q e => (RT_congr h (by omega) (fun r hr => updL_ne (by omega)) (fun r hr => updL_ne (by omega))).mpr e
      rcases Nat.eq_zero_or_pos i with rfl | hi0
      · have := B39_n h hi ht hr hp n2 rfl h' nd' (s0 := nI 0 - (1 : Int32)) (P := False) (P' := False) (Or.inr ⟨isRight_m1, id⟩) (Or.inr ⟨isRight_m1, id⟩)
        rcases this with ⟨a1, a2, -⟩ | ⟨a1, a2⟩
        · exact Or.inl ⟨a1, c, a2, fun q => absurd q (by decide), auto⟩
        · exact Or.inr ⟨a1, fun q => a2 ⟨q.2.1, id⟩⟩
      · have e1 : nI i - (1 : Int32) = nI (i - 1) := nI_b1 hi0
        have := B39_n h hi ht hr hp n2 rfl h' nd' (s0 := nI i - (1 : Int32)) (by rw [e1]; exact isRight_R h (i := i - 1) (by omega)) (by rw [e1]; exact isRight_R h' (i := i - 1) (by omega))
        rcases this with ⟨a1, a2, a3⟩ | ⟨a1, a2⟩
        · exact Or.inl ⟨a1, c, a2, fun _ => a3, auto⟩
        · exact Or.inr ⟨a1, fun q => a2 ⟨q.2.1, q.2.2.1 hi0⟩⟩
    · rw [if_neg (nI_ne (by omega) (by omega) (by omega))]
      have auto : ∀ q : 0 < i, RT Cc Cn (i - 1) → RT (vp_updL Cc (8 * (i + 1) + row) (nv (Cc (8 * (i + 1) + row)) p d)) Cn (i - 1) := fun q e => (RT_congr h (by omega) (fun r hr => updL_ne (by omega)) (fun r hr => updL_ne (by omega))).mpr e
      have e1 : nI i + (1 : Int32) = nI (i + 1) := nI_inc i
      rcases Nat.lt_or_ge (i + 2) b with hi2 | hi2
      · have := B39_n h hi ht hr hp n2 rfl h' nd' (s0 := nI i + (1 : Int32)) (by rw [e1]; exact isRight_R h (i := i + 1) (by omega)) (by rw [e1]; exact isRight_R h' (i := i + 1) (by omega))
        rcases this with ⟨a1, a2, a3⟩ | ⟨a1, a2⟩
        · exact Or.inl ⟨a1, c, a2, auto, fun _ => a3⟩
        · exact Or.inr ⟨a1, fun q => a2 ⟨q.2.1, q.2.2.2 hi2⟩⟩
      · have := B39_n h hi ht hr hp n2 rfl h' nd' (s0 := nI i + (1 : Int32)) (P := False) (P' := False) (Or.inr ⟨by rw [e1]; exact isRight_end hb (by omega) (by omega), id⟩) (Or.inr ⟨by rw [e1]; exact isRight_end hb (by omega) (by omega), id⟩)
        rcases this with ⟨a1, a2, -⟩ | ⟨a1, a2⟩
        · exact Or.inl ⟨a1, c, a2, auto, fun q => absurd q (by omega)⟩
        · exact Or.inr ⟨a1, fun q => a2 ⟨q.2.1, id⟩⟩
theorem B42_n {b : Nat} {N : Nat → Int32} {C' : Nat → Int64} {Cn : Nat → Int32} {My : Nat → Int64} {Mg Mn : Nat → Int32} {k : Nat} {v : Int64} (h' : CP b N C' Cn (vp_updL My k v) Mg Mn) {i : Nat} (hi : i + 1 < b) (hk : k < 8 * b) {fa : Int32} {A : Prop} (ha : (fa = 1 ∧ i + 2 < b ∧ A) ∨ (fa = 0 ∧ ¬ (i + 2 < b ∧ A))) (hand : Nat → Int64) : ∃ (r : Int32) (hand' : Nat → Int64), fX9_mends_B42 (nI k) (nI i) fa (My k) Mn (vp_updL My k v) Mg hand = some (r, My, hand') ∧ ((r = 1 ∧ (i + 2 < b → A → RT C' Cn (i + 1))) ∨ (r = 0 ∧ ¬ (i + 2 < b → A → RT C' Cn (i + 1)))) := by
  have hb := h'.2.1
  have hk2 : k < 1200 := by omega
  have hback := updL_back My k v
  unfold fX9_mends_B42
  rcases ha with ⟨rfl, a1, a2⟩ | ⟨rfl, a1⟩
  · obtain ⟨w, hand', g1, g2⟩ := rightOf_R h' (i := i + 1) (by omega) hand
    rw [i10, nI_inc, g1]
    simp only [bn2, Option.bind_some]
    rcases g2 with ⟨rfl, g2⟩ | ⟨g2, g3⟩
    · rw [if_pos rfl, wrJ_n _ hk2 (by decide), hback]
      exact ⟨1, hand', rfl, Or.inl ⟨rfl, fun _ _ => g2⟩⟩
    · rw [if_neg g2, wrJ_n _ hk2 (by decide), hback]
      exact ⟨0, hand', rfl, Or.inr ⟨rfl, fun q => g3 (q a1 a2)⟩⟩
  · rw [i00, wrJ_n _ hk2 (by decide), hback]
    exact ⟨1, hand, rfl, Or.inl ⟨rfl, fun q1 q2 => absurd ⟨q1, q2⟩ a1⟩⟩
theorem mends9_n {b : Nat} {N : Nat → Int32} {C' : Nat → Int64} {Cn : Nat → Int32} {My : Nat → Int64} {Mg Mn : Nat → Int32} {k : Nat} {v : Int64} (h' : CP b N C' Cn (vp_updL My k v) Mg Mn) {i : Nat} (hi : i + 1 < b) (hk : k < 8 * b) {fb fa : Int32} {A B : Prop} (hb : (fb = 1 ∧ 0 < i ∧ B) ∨ (fb = 0 ∧ ¬ (0 < i ∧ B))) (ha : (fa = 1 ∧ i + 2 < b ∧ A) ∨ (fa = 0 ∧ ¬ (i + 2 < b ∧ A))) (hand : Nat → Int64) : ∃ (r : Int32) (hand' : Nat → Int64), fX9_mends (nI k) v (nI i) fb fa Mn My Mg hand = some (r, My, hand') ∧ ((r = 1 ∧ RT C' Cn i ∧ (0 < i → B → RT C' Cn (i - 1)) ∧ (i + 2 < b → A → RT C' Cn (i + 1))) ∨ (r = 0 ∧ ¬ (RT C' Cn i ∧ (0 < i → B → RT C' Cn (i - 1)) ∧ (i + 2 < b → A → RT C' Cn (i + 1))))) := by
  have hb49 := h'.2.1
  have hk2 : k < 1200 := by omega
  have hback := updL_back My k v
  obtain ⟨w, hand', g1, g2⟩ := rightOf_R h' (i := i) hi hand
  unfold fX9_mends
  rw [rdJ_n hk2 (by decide)]
  simp only [Option.bind_some]
  rw [wrJ_n _ hk2 (by decide)]
  simp only [Option.bind_some]
  rw [g1]
  simp only [bn2, Option.bind_some]
  rcases g2 with ⟨rfl, g2⟩ | ⟨g2, g3⟩
  · rw [if_pos rfl]
    rcases hb with ⟨rfl, b1, b2⟩ | ⟨rfl, b1⟩
    · obtain ⟨w2, hand2, g4, g5⟩ := rightOf_R h' (i := i - 1) (by omega) hand'
      rw [i10, nI_b1 b1, g4]
      simp only [Option.bind_some]
      rcases g5 with ⟨rfl, g5⟩ | ⟨g5, g6⟩
      · rw [if_pos rfl]
        obtain ⟨r, hand3, g7, g8⟩ := B42_n h' hi hk ha hand2
        rw [g7]
        refine ⟨r, hand3, rfl, ?_⟩
        rcases g8 with ⟨rfl, g8⟩ | ⟨rfl, g8⟩
        · exact Or.inl ⟨rfl, g2, fun _ _ => g5, g8⟩
        · exact Or.inr ⟨rfl, fun q => g8 q.2.2⟩
      · rw [if_neg g5, wrJ_n _ hk2 (by decide), hback]
        exact ⟨0, hand2, rfl, Or.inr ⟨rfl, fun q => g6 (q.2.1 b1 b2)⟩⟩
    · rw [i00]
      obtain ⟨r, hand3, g7, g8⟩ := B42_n h' hi hk ha hand'
      rw [g7]
      refine ⟨r, hand3, rfl, ?_⟩
      rcases g8 with ⟨rfl, g8⟩ | ⟨rfl, g8⟩
      · exact Or.inl ⟨rfl, g2, fun q1 q2 => absurd ⟨q1, q2⟩ b1, g8⟩
      · exact Or.inr ⟨rfl, fun q => g8 q.2.2⟩
  · rw [if_neg g2, wrJ_n _ hk2 (by decide), hback]
    exact ⟨0, hand', rfl, Or.inr ⟨rfl, fun q => g3 q.1⟩⟩
/-- the search, in pure words -/
def fnd (M : Nat → Bool) (w : Int32) : Nat → Nat → Int32 → Int32 ⊕ Nat
  | 0, _, x => .inl x
  | n + 1, k, x => if M k = true then (if x = w then .inr k else fnd M w n (k + 1) (x + 1)) else fnd M w n (k + 1) x
theorem fnd_add (M : Nat → Bool) (w : Int32) (n : Nat) : ∀ m k x, fnd M w (m + n) k x = Sum.elim (fun y => fnd M w n (k + m) y) (fun j => .inr j) (fnd M w m k x) := by
  intro m
  induction m with
  | zero => intro k x; rw [Nat.zero_add]; rfl
  | succ m ih =>
    intro k x
    have e1 : k + 1 + m = k + (m + 1) := by omega
    have e2 : m + 1 + n = (m + n) + 1 := by omega
    rw [e2]
    show (if M k = true then (if x = w then .inr k else fnd M w (m + n) (k + 1) (x + 1)) else fnd M w (m + n) (k + 1) x) = Sum.elim _ _ (if M k = true then (if x = w then .inr k else fnd M w m (k + 1) (x + 1)) else fnd M w m (k + 1) x)
    by_cases c : M k = true
    · rw [if_pos c, if_pos c]
      by_cases c2 : x = w
      · rw [if_pos c2, if_pos c2]; rfl
      · rw [if_neg c2, if_neg c2, ih, e1]
    · rw [if_neg c, if_neg c, ih, e1]
theorem fnd_none (M : Nat → Bool) (w : Int32) : ∀ m k x, (∀ j, k ≤ j → j < k + m → M j = false) → fnd M w m k x = .inl x := by
  intro m
  induction m with
  | zero => intro k x _; rfl
  | succ m ih =>
    intro k x h
    show (if M k = true then (if x = w then .inr k else fnd M w m (k + 1) (x + 1)) else fnd M w m (k + 1) x) = _
    rw [if_neg (by rw [h k (by omega) (by omega)]; decide)]
    exact ih (k + 1) x (fun j h1 h2 => h j (by omega) (by omega))
