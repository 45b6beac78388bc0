/-! ===== root: the digit ===== -/
theorem root_dig {v y : Int64} {kI : Int32} {V q A B : Nat} (hq : q < 12) (hA : A < 8) (hB : B < 8) (P : Nat → Nat) (hpow : ∀ d, 1 ≤ d → d ≤ 9 → ∃ z8 z9, fX5_power (y + (nI d).toInt64 * tensF q) kI = some z8 ∧ fX9_power (y + (nI d).toInt64 * tensF q) kI = some z9 ∧ (V < P d ∧ (z8 = LOSTv ∨ v < z8) ∧ v < z9 ∨ ¬ V < P d ∧ ¬ z8 = LOSTv ∧ ¬ v < z8 ∧ ¬ v < z9)) (row hand : Nat → Int64) (hrow : row A = v) (hhand : hand B = y) : ∃ D, D ≤ 9 ∧ fX7_rootDigit v y (nI q) kI = some (nI D) ∧ itr (fX9_root_L85 (nI A) (nI B) kI (nI q) row hand) KF (9 : Int32) = some (nI D) ∧ (D = 0 ∨ ¬ V < P D) ∧ (D < 9 → V < P (D + 1)) := by
  obtain ⟨e, e', h1, h2, h3⟩ := itr_rel (f := fX7_rootDigit_L4 v y (nI q) kI) (g := fX9_root_L85 (nI A) (nI B) kI (nI q) row hand)
    (fun m s t => m ≤ 9 ∧ s = nI m ∧ t = nI m ∧ (m < 9 → V < P (m + 1)))
    (fun e e' => ∃ D, D ≤ 9 ∧ e' = nI D ∧ ((D = 0 ∧ e = .inl ()) ∨ (¬ V < P D ∧ e = .inr (nI D))) ∧ (D < 9 → V < P (D + 1)))
    (fun m s t hI => by
      obtain ⟨hm, rfl, rfl, hV⟩ := hI
      show (∃ e e', fX7_rootDigit_L4b v y (nI q) kI (nI m) = some (.inr e) ∧ fX9_root_L85b (nI A) (nI B) kI (nI q) row hand (nI m) = some (.inr e') ∧ _) ∨ ∃ k s' t', k < m ∧ fX7_rootDigit_L4b v y (nI q) kI (nI m) = some (.inl s') ∧ fX9_root_L85b (nI A) (nI B) kI (nI q) row hand (nI m) = some (.inl t') ∧ _
      unfold fX7_rootDigit_L4b fX9_root_L85b
      rcases m with _ | m
      · left
        rw [if_neg (show ¬ (0 : Int32) < nI 0 by decide), if_neg (show ¬ (0 : Int32) < nI 0 by decide)]
        exact ⟨_, _, rfl, rfl, 0, by omega, rfl, Or.inl ⟨rfl, rfl⟩, hV⟩
      · obtain ⟨z8, z9, g1, g2, g3⟩ := hpow (m + 1) (by omega) hm
        have hpos : (0 : Int32) < nI (m + 1) := (nI_p (by omega)).mpr (by omega)
        have hdn : nI (m + 1) + (-1 : Int32) = nI m := dn_s m
        rw [if_pos hpos, if_pos hpos, tenTo8 q hq, ten9 q hq, rdJ_n hB (by decide), rdJ_n hA (by decide), hrow, hhand]
        simp only [Option.bind_some]
        rw [g1, g2]
        simp only [Option.bind_some]
        rw [hdn]
        rcases g3 with ⟨c1, c2, c3⟩ | ⟨c1, c2, c3, c4⟩
        · right
          rw [if_pos c3]
          by_cases c : z8 = LOSTv
          · rw [if_pos c]
            exact ⟨m, _, _, by omega, rfl, rfl, by omega, rfl, rfl, fun _ => c1⟩
          · have c5 : v < z8 := by
              rcases c2 with q | q
              · exact absurd q c
              · exact q
            rw [if_neg c, if_pos c5]
            exact ⟨m, _, _, by omega, rfl, rfl, by omega, rfl, rfl, fun _ => c1⟩
        · left
          rw [if_neg c4, if_neg c2, if_neg c3]
          exact ⟨_, _, rfl, rfl, m + 1, hm, rfl, Or.inr ⟨c1, rfl⟩, hV⟩) KF 9 (9 : Int32) (9 : Int32) (KF_lt (by decide)) ⟨by omega, rfl, rfl, fun q => absurd q (by decide)⟩
  obtain ⟨D, hD, rfl, hc, hV⟩ := h3
  unfold fX7_rootDigit
  rw [h1, h2]
  rcases hc with ⟨rfl, rfl⟩ | ⟨hn, rfl⟩
  · exact ⟨0, hD, rfl, rfl, Or.inl rfl, hV⟩
  · exact ⟨D, hD, rfl, rfl, Or.inr hn, hV⟩
