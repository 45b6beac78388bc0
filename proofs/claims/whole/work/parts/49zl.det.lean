/-! ===== clearing: the reference's determinants ===== -/
def dOrd (n code i : Nat) : Nat := code / n ^ i % n
def dSeen (n code : Nat) : Nat → Nat
  | 0 => 0
  | i + 1 => dSeen n code i ||| 2 ^ dOrd n code i
def sgs (o : Nat → Nat) (i : Nat) : Nat → Int → Int
  | 0, x => x
  | j + 1, x => if o i < o j then -(sgs o i j x) else sgs o i j x
def trm (o : Nat → Nat) (e : Nat → Nat → Int) : Nat → Int
  | 0 => 1
  | i + 1 => sgs o i i (trm o e i * e i (o i))
def dsum (n : Nat) (e : Nat → Nat → Int) : Nat → Int
  | 0 => 0
  | c + 1 => if dSeen n c n = 2 ^ n - 1 then dsum n e c + trm (dOrd n c) e n else dsum n e c
def dlist (n : Nat) (e : Nat → Nat → Int) : List Nat → Int
  | [] => 0
  | c :: l => trm (dOrd n c) e n + dlist n e l
theorem dlist_app (n : Nat) (e : Nat → Nat → Int) : ∀ a b, dlist n e (a ++ b) = dlist n e a + dlist n e b := by
  intro a
  induction a with
  | nil => intro b; show dlist n e b = 0 + dlist n e b; rw [Int.zero_add]
  | cons c a ih =>
    intro b
    show trm (dOrd n c) e n + dlist n e (a ++ b) = trm (dOrd n c) e n + dlist n e a + dlist n e b
    rw [ih, Int.add_assoc]
theorem dsum_list (n : Nat) (e : Nat → Nat → Int) : ∀ N, dsum n e N = dlist n e ((List.range N).filter (fun c => decide (dSeen n c n = 2 ^ n - 1))) := by
  intro N
  induction N with
  | zero => rfl
  | succ N ih =>
    rw [List.range_succ, List.filter_append, dlist_app, ← ih]
    simp only [dsum]
    by_cases h : dSeen n N n = 2 ^ n - 1
    · rw [if_pos h, List.filter_cons_of_pos (by simpa using h)]
      show _ = _ + (trm (dOrd n N) e n + 0)
      rw [Int.add_zero]
    · rw [if_neg h, List.filter_cons_of_neg (by simpa using h)]
      show _ = _ + 0
      rw [Int.add_zero]
theorem perms1 : (List.range 1).filter (fun c => decide (dSeen 1 c 1 = 2 ^ 1 - 1)) = [0] := by decide +kernel
theorem trm1_0 (e : Nat → Nat → Int) : trm (dOrd 1 0) e 1 = (1 * e 0 0) := rfl
theorem det1_eq (e : Nat → Nat → Int) : dsum 1 e 1 = e 0 0 := by
  rw [dsum_list, perms1]
  simp only [dlist, trm1_0]
  grind
theorem perms2 : (List.range 4).filter (fun c => decide (dSeen 2 c 2 = 2 ^ 2 - 1)) = [1, 2] := by decide +kernel
theorem trm2_1 (e : Nat → Nat → Int) : trm (dOrd 2 1) e 2 = (-((1 * e 0 1) * e 1 0)) := rfl
theorem trm2_2 (e : Nat → Nat → Int) : trm (dOrd 2 2) e 2 = ((1 * e 0 0) * e 1 1) := rfl
theorem det2_eq (e : Nat → Nat → Int) : dsum 2 e 4 = -(e 0 1 * e 1 0) + e 0 0 * e 1 1 := by
  rw [dsum_list, perms2]
  simp only [dlist, trm2_1, trm2_2]
  grind
theorem perms3 : (List.range 27).filter (fun c => decide (dSeen 3 c 3 = 2 ^ 3 - 1)) = [5, 7, 11, 15, 19, 21] := by decide +kernel
theorem trm3_5 (e : Nat → Nat → Int) : trm (dOrd 3 5) e 3 = (-(-((-((1 * e 0 2) * e 1 1)) * e 2 0))) := rfl
theorem trm3_7 (e : Nat → Nat → Int) : trm (dOrd 3 7) e 3 = (-(-(((1 * e 0 1) * e 1 2) * e 2 0))) := rfl
theorem trm3_11 (e : Nat → Nat → Int) : trm (dOrd 3 11) e 3 = (-((-((1 * e 0 2) * e 1 0)) * e 2 1)) := rfl
theorem trm3_15 (e : Nat → Nat → Int) : trm (dOrd 3 15) e 3 = (-(((1 * e 0 0) * e 1 2) * e 2 1)) := rfl
theorem trm3_19 (e : Nat → Nat → Int) : trm (dOrd 3 19) e 3 = ((-((1 * e 0 1) * e 1 0)) * e 2 2) := rfl
theorem trm3_21 (e : Nat → Nat → Int) : trm (dOrd 3 21) e 3 = (((1 * e 0 0) * e 1 1) * e 2 2) := rfl
theorem det3_eq (e : Nat → Nat → Int) : dsum 3 e 27 = -(e 0 2 * e 1 1 * e 2 0) + e 0 1 * e 1 2 * e 2 0 + e 0 2 * e 1 0 * e 2 1 - e 0 0 * e 1 2 * e 2 1 - e 0 1 * e 1 0 * e 2 2 + e 0 0 * e 1 1 * e 2 2 := by
  rw [dsum_list, perms3]
  simp only [dlist, trm3_5, trm3_7, trm3_11, trm3_15, trm3_19, trm3_21]
  grind
theorem perms4 : (List.range 256).filter (fun c => decide (dSeen 4 c 4 = 2 ^ 4 - 1)) = [27, 30, 39, 45, 54, 57, 75, 78, 99, 108, 114, 120, 135, 141, 147, 156, 177, 180, 198, 201, 210, 216, 225, 228] := by decide +kernel
theorem trm4_27 (e : Nat → Nat → Int) : trm (dOrd 4 27) e 4 = (-(-(-((-(-((-((1 * e 0 3) * e 1 2)) * e 2 1))) * e 3 0)))) := rfl
theorem trm4_30 (e : Nat → Nat → Int) : trm (dOrd 4 30) e 4 = (-(-(-((-(-(((1 * e 0 2) * e 1 3) * e 2 1))) * e 3 0)))) := rfl
theorem trm4_39 (e : Nat → Nat → Int) : trm (dOrd 4 39) e 4 = (-(-(-((-((-((1 * e 0 3) * e 1 1)) * e 2 2)) * e 3 0)))) := rfl
theorem trm4_45 (e : Nat → Nat → Int) : trm (dOrd 4 45) e 4 = (-(-(-((-(((1 * e 0 1) * e 1 3) * e 2 2)) * e 3 0)))) := rfl
theorem trm4_54 (e : Nat → Nat → Int) : trm (dOrd 4 54) e 4 = (-(-(-(((-((1 * e 0 2) * e 1 1)) * e 2 3) * e 3 0)))) := rfl
theorem trm4_57 (e : Nat → Nat → Int) : trm (dOrd 4 57) e 4 = (-(-(-((((1 * e 0 1) * e 1 2) * e 2 3) * e 3 0)))) := rfl
theorem trm4_75 (e : Nat → Nat → Int) : trm (dOrd 4 75) e 4 = (-(-((-(-((-((1 * e 0 3) * e 1 2)) * e 2 0))) * e 3 1))) := rfl
theorem trm4_78 (e : Nat → Nat → Int) : trm (dOrd 4 78) e 4 = (-(-((-(-(((1 * e 0 2) * e 1 3) * e 2 0))) * e 3 1))) := rfl
theorem trm4_99 (e : Nat → Nat → Int) : trm (dOrd 4 99) e 4 = (-(-((-((-((1 * e 0 3) * e 1 0)) * e 2 2)) * e 3 1))) := rfl
theorem trm4_108 (e : Nat → Nat → Int) : trm (dOrd 4 108) e 4 = (-(-((-(((1 * e 0 0) * e 1 3) * e 2 2)) * e 3 1))) := rfl
theorem trm4_114 (e : Nat → Nat → Int) : trm (dOrd 4 114) e 4 = (-(-(((-((1 * e 0 2) * e 1 0)) * e 2 3) * e 3 1))) := rfl
theorem trm4_120 (e : Nat → Nat → Int) : trm (dOrd 4 120) e 4 = (-(-((((1 * e 0 0) * e 1 2) * e 2 3) * e 3 1))) := rfl
theorem trm4_135 (e : Nat → Nat → Int) : trm (dOrd 4 135) e 4 = (-((-(-((-((1 * e 0 3) * e 1 1)) * e 2 0))) * e 3 2)) := rfl
theorem trm4_141 (e : Nat → Nat → Int) : trm (dOrd 4 141) e 4 = (-((-(-(((1 * e 0 1) * e 1 3) * e 2 0))) * e 3 2)) := rfl
theorem trm4_147 (e : Nat → Nat → Int) : trm (dOrd 4 147) e 4 = (-((-((-((1 * e 0 3) * e 1 0)) * e 2 1)) * e 3 2)) := rfl
theorem trm4_156 (e : Nat → Nat → Int) : trm (dOrd 4 156) e 4 = (-((-(((1 * e 0 0) * e 1 3) * e 2 1)) * e 3 2)) := rfl
theorem trm4_177 (e : Nat → Nat → Int) : trm (dOrd 4 177) e 4 = (-(((-((1 * e 0 1) * e 1 0)) * e 2 3) * e 3 2)) := rfl
theorem trm4_180 (e : Nat → Nat → Int) : trm (dOrd 4 180) e 4 = (-((((1 * e 0 0) * e 1 1) * e 2 3) * e 3 2)) := rfl
theorem trm4_198 (e : Nat → Nat → Int) : trm (dOrd 4 198) e 4 = ((-(-((-((1 * e 0 2) * e 1 1)) * e 2 0))) * e 3 3) := rfl
theorem trm4_201 (e : Nat → Nat → Int) : trm (dOrd 4 201) e 4 = ((-(-(((1 * e 0 1) * e 1 2) * e 2 0))) * e 3 3) := rfl
theorem trm4_210 (e : Nat → Nat → Int) : trm (dOrd 4 210) e 4 = ((-((-((1 * e 0 2) * e 1 0)) * e 2 1)) * e 3 3) := rfl
theorem trm4_216 (e : Nat → Nat → Int) : trm (dOrd 4 216) e 4 = ((-(((1 * e 0 0) * e 1 2) * e 2 1)) * e 3 3) := rfl
theorem trm4_225 (e : Nat → Nat → Int) : trm (dOrd 4 225) e 4 = (((-((1 * e 0 1) * e 1 0)) * e 2 2) * e 3 3) := rfl
theorem trm4_228 (e : Nat → Nat → Int) : trm (dOrd 4 228) e 4 = ((((1 * e 0 0) * e 1 1) * e 2 2) * e 3 3) := rfl
theorem det4_eq (e : Nat → Nat → Int) : dsum 4 e 256 = e 0 3 * e 1 2 * e 2 1 * e 3 0 - e 0 2 * e 1 3 * e 2 1 * e 3 0 - e 0 3 * e 1 1 * e 2 2 * e 3 0 + e 0 1 * e 1 3 * e 2 2 * e 3 0 + e 0 2 * e 1 1 * e 2 3 * e 3 0 - e 0 1 * e 1 2 * e 2 3 * e 3 0 - e 0 3 * e 1 2 * e 2 0 * e 3 1 + e 0 2 * e 1 3 * e 2 0 * e 3 1 + e 0 3 * e 1 0 * e 2 2 * e 3 1 - e 0 0 * e 1 3 * e 2 2 * e 3 1 - e 0 2 * e 1 0 * e 2 3 * e 3 1 + e 0 0 * e 1 2 * e 2 3 * e 3 1 + e 0 3 * e 1 1 * e 2 0 * e 3 2 - e 0 1 * e 1 3 * e 2 0 * e 3 2 - e 0 3 * e 1 0 * e 2 1 * e 3 2 + e 0 0 * e 1 3 * e 2 1 * e 3 2 + e 0 1 * e 1 0 * e 2 3 * e 3 2 - e 0 0 * e 1 1 * e 2 3 * e 3 2 - e 0 2 * e 1 1 * e 2 0 * e 3 3 + e 0 1 * e 1 2 * e 2 0 * e 3 3 + e 0 2 * e 1 0 * e 2 1 * e 3 3 - e 0 0 * e 1 2 * e 2 1 * e 3 3 - e 0 1 * e 1 0 * e 2 2 * e 3 3 + e 0 0 * e 1 1 * e 2 2 * e 3 3 := by
  rw [dsum_list, perms4]
  simp only [dlist, trm4_27, trm4_30, trm4_39, trm4_45, trm4_54, trm4_57, trm4_75, trm4_78, trm4_99, trm4_108, trm4_114, trm4_120, trm4_135, trm4_141, trm4_147, trm4_156, trm4_177, trm4_180, trm4_198, trm4_201, trm4_210, trm4_216, trm4_225, trm4_228]
  grind
