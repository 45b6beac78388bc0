/-! ===== begin with an emptied row ===== -/
theorem work_begin {c : Nat} (hc : c < 8) {Xr Mr : Nat → Int64} (hA : RA Xr Mr) (Xb : Int32) (Xc : Nat → Int64) (Xn : Nat → Int32) (st isB : Int32) (hand nb : Nat → Int64) (nn : Nat → Int32) : ∃ s1 i1 h1 n1 j Xb' Xc' Xn' st' isB' hand' nb' nn', j ≤ 1 ∧ fX7_begin (nI c) Xr Xb Xc Xn = some (Xb', Xc', Xn') ∧ fX9_beginWork st isB Mr hand nb = some (s1, i1, h1, n1) ∧ fX9_empty (nI c) s1 i1 h1 n1 nn = some (st', isB', hand', nb', nn') ∧ CI j Xb' Xc' Xn' st' isB' hand' nb' nn' ∧ hand' c = 0 ∧ ∀ r, r < 8 → r ≠ c → hand' r = Xr r := by
  obtain ⟨Xb0, Xc0, st0, isB0, hand0, nb0, c1, c2, c3, c4⟩ := CI_begin hA Xb Xc Xn st isB hand nb nn
  have hf : ∀ r, r < 8 → Fit (Xr r) := fun r hr => (hA r hr).2
  unfold fX7_begin fX9_empty
  rw [c1, held_n hc, c2]
  simp only [bn2, Option.bind_some]
  by_cases z : Xr c = 0
  · refine ⟨st0, isB0, hand0, nb0, 0, Xb0, Xc0, Xn, st0, isB0, hand0, nb0, nn, by omega, by rw [if_pos z], rfl, ?_, c3, by rw [c4 c hc, z], fun r hr _ => c4 r hr⟩
    rw [rdJ_n hc (by decide), c4 c hc]
    simp only [Option.bind_some]
    rw [if_pos z]
  · have hother : ∀ r, r < 8 → r ≠ c → vp_updL hand0 c 0 r = Xr r := fun r hr hrc => by rw [updL_ne hrc, c4 r hr]
    have hat : vp_updL hand0 c 0 c = 0 := updL_at _ _ _
    obtain ⟨Xb', Xc', Xn', st', isB', nb', nn', g1, g2, g3⟩ := CI_step 5 (nI c) 0 0 (-6) (-6) (k := 5) (a := c) (p := 0) (d := 0) (b := 0) (c := 0) c3 (by omega) (fun N' n0 n1 n2 n3 n4 n5 => ⟨n0, n1, n2, by rw [n3]; rfl, hc, by omega, by decide, Or.inr (Or.inr (Or.inl rfl))⟩) (by decide) (vp_updL hand0 c 0) (fun r hr => by
      have ew : wval 5 c (mI 0 0) 0 0 (fun r => (hand0 r).toInt) r = if r = c then 0 else (hand0 r).toInt := rfl
      rw [ew]
      by_cases e : r = c
      · subst e
        rw [hat, if_pos rfl]
        exact ⟨fit_abs.mpr (by decide), rfl, wok_of (Or.inr (Or.inr (Or.inr rfl)))⟩
      · rw [hother r hr e, if_neg e, c4 r hr]
        exact ⟨hf r hr, rfl, wok_of (Or.inl e)⟩)
    refine ⟨st0, isB0, hand0, nb0, 1, Xb', Xc', Xn', st', isB', _, nb', nn', by omega, ?_, rfl, ?_, g3, hat, hother⟩
    · rw [if_neg z, g1]
      rfl
    · rw [rdJ_n hc (by decide), c4 c hc]
      simp only [Option.bind_some]
      rw [if_neg z, wrJ_n _ hc (by decide)]
      simp only [Option.bind_some]
      rw [g2]
      rfl
