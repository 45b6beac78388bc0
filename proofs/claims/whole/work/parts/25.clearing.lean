-- RodBoard$Clearing.begin(II)V
theorem uX0_begin_X0 : ∀ w ∈ wsX00, w ∈ wsX0_begin := fun _ h => List.mem_cons_of_mem _ (List.mem_append_right _ h)
theorem mX0_begin_1 : Cond.fieldLink RX0 26 "RodBoard$Clearing" "n" "I" ∈ wsX0_begin := List.mem_of_getElem? (i := 1) rfl
theorem mX0_begin_2 : Cond.fieldLink RX0 30 "RodBoard$Clearing" "m" "I" ∈ wsX0_begin := List.mem_of_getElem? (i := 2) rfl
theorem mX0_begin_3 : Cond.fieldLink RX0 11 "RodBoard$Clearing" "given" "[I" ∈ wsX0_begin := List.mem_of_getElem? (i := 3) rfl
def fX0_begin_L12b (x3 : Int32) (s_given : Nat → Int32) : Option (((Int32) × (Nat → Int32)) ⊕ ((Nat → Int32))) := if x3 < (25 : Int32) then Option.bind (wrI s_given 25 x3 (0 : Int32)) (fun g_2 => some (Sum.inl (x3 + (1 : Int32), g_2))) else some (Sum.inr s_given)
def fX0_begin_L12 : ((Int32) × (Nat → Int32)) → Option (((Int32) × (Nat → Int32)) ⊕ ((Nat → Int32))) := fun e => fX0_begin_L12b  e.1 e.2
set_option maxHeartbeats 4000000 in
set_option maxRecDepth 100000 in
theorem bX0_begin_L12 {Γ : KT} (C : CX Γ cX0_begin 4 wsX0_begin RX0 ({ frames := 0, cells := 0, slots := 0, locals := 0 } : Room)) (h0 : Nat) (a_s_given : Nat) (a_s_numbers : Nat) (a_s_frees : Nat) (a_s_uppers : Nat) (s_n : Int32) (s_m : Int32) (s_turnsTaken : Int32) (s_settled : Int32) (s_numbers : Nat → Int64) (s_frees : Nat → Int32) (s_uppers : Nat → Int64) (x3 : Int32) (s_given : Nat → Int32) (x : ((Int32) × (Nat → Int32)) ⊕ ((Nat → Int32))) (hm : fX0_begin_L12b x3 s_given = some x) (hb : (∀ (x3' : Int32) (s_given' : Nat → Int32), x = Sum.inl (x3', s_given') → V Γ 4 0 0 12 [(0, .ref h0), (3, .int x3')] [] [(h0, eO 0 [.ref a_s_given, .ref a_s_numbers, .ref a_s_frees, .ref a_s_uppers, .int s_n, .int s_m, .int s_turnsTaken, .int s_settled]), (a_s_given, eI 25 s_given'), (a_s_numbers, eJ 25 s_numbers), (a_s_frees, eZ 4 s_frees), (a_s_uppers, eJ 4 s_uppers)])) (he0 : (∀ (s_given' : Nat → Int32), x = Sum.inr s_given' → V Γ 4 0 0 34 [] [] [(h0, eO 0 [.ref a_s_given, .ref a_s_numbers, .ref a_s_frees, .ref a_s_uppers, .int s_n, .int s_m, .int s_turnsTaken, .int s_settled]), (a_s_given, eI 25 s_given'), (a_s_numbers, eJ 25 s_numbers), (a_s_frees, eZ 4 s_frees), (a_s_uppers, eJ 4 s_uppers)])) : V Γ 4 0 0 12 [(0, .ref h0), (3, .int x3)] [] [(h0, eO 0 [.ref a_s_given, .ref a_s_numbers, .ref a_s_frees, .ref a_s_uppers, .int s_n, .int s_m, .int s_turnsTaken, .int s_settled]), (a_s_given, eI 25 s_given), (a_s_numbers, eJ 25 s_numbers), (a_s_frees, eZ 4 s_frees), (a_s_uppers, eJ 4 s_uppers)] := by
  unfold fX0_begin_L12b at hm
  refine V_iload_n C 1 dX0_begin_12 rfl rfl ?_
  refine V_aload_n C 0 dX0_begin_13 rfl rfl ?_
  refine V_get C uX0_begin_X0 0 0 rfl rfl (by decide) mX0_begin_3 rfl dX0_begin_14 ?_
  refine V_alen C (v := (25 : Int32)) 1 0 rfl rfl rfl rfl dX0_begin_17 ?_
  refine V_icmp_ge C 34 dX0_begin_18 (by decide) (fun c_1 => ?_) (fun c_1 => ?_)
  · have hm := ite_t c_1 hm
    refine V_aload_n C 0 dX0_begin_21 rfl rfl ?_
    refine V_get C uX0_begin_X0 0 0 rfl rfl (by decide) mX0_begin_3 rfl dX0_begin_22 ?_
    refine V_iload_n C 1 dX0_begin_25 rfl rfl ?_
    refine V_iconst C (v := (0 : Int32)) dX0_begin_26 (by decide) ?_
    obtain ⟨g_2, hg_2, hm⟩ := bnd hm
    refine V_iast C 1 rfl hg_2 dX0_begin_27 (ws' := [(h0, eO 0 [.ref a_s_given, .ref a_s_numbers, .ref a_s_frees, .ref a_s_uppers, .int s_n, .int s_m, .int s_turnsTaken, .int s_settled]), (a_s_given, eI 25 g_2), (a_s_numbers, eJ 25 s_numbers), (a_s_frees, eZ 4 s_frees), (a_s_uppers, eJ 4 s_uppers)]) rfl ?_
    refine V_iinc C 1 (v := x3 + (1 : Int32)) (lv' := [(3, .int (x3 + (1 : Int32))), (0, .ref h0)]) dX0_begin_28 rfl rfl (by decide) rfl ?_
    refine V_goto C 12 dX0_begin_31 (by decide) ?_
    refine V_lv [1, 0] rfl ?_
    exact hb (x3 + (1 : Int32)) g_2 (Option.some.inj hm).symm
  · have hm := ite_f c_1 hm
    refine V_lv [] rfl ?_
    exact he0 s_given (Option.some.inj hm).symm
theorem lX0_begin_L12 {Γ : KT} (C : CX Γ cX0_begin 4 wsX0_begin RX0 ({ frames := 0, cells := 0, slots := 0, locals := 0 } : Room)) (h0 : Nat) (a_s_given : Nat) (a_s_numbers : Nat) (a_s_frees : Nat) (a_s_uppers : Nat) (s_n : Int32) (s_m : Int32) (s_turnsTaken : Int32) (s_settled : Int32) (s_numbers : Nat → Int64) (s_frees : Nat → Int32) (s_uppers : Nat → Int64) (x3 : Int32) (s_given : Nat → Int32) (N : Nat) (e : (Nat → Int32)) (hN : itr (fX0_begin_L12) N (x3, s_given) = some e) (he0 : (∀ (s_given' : Nat → Int32), e = s_given' → V Γ 4 0 0 34 [] [] [(h0, eO 0 [.ref a_s_given, .ref a_s_numbers, .ref a_s_frees, .ref a_s_uppers, .int s_n, .int s_m, .int s_turnsTaken, .int s_settled]), (a_s_given, eI 25 s_given'), (a_s_numbers, eJ 25 s_numbers), (a_s_frees, eZ 4 s_frees), (a_s_uppers, eJ 4 s_uppers)])) : V Γ 4 0 0 12 [(0, .ref h0), (3, .int x3)] [] [(h0, eO 0 [.ref a_s_given, .ref a_s_numbers, .ref a_s_frees, .ref a_s_uppers, .int s_n, .int s_m, .int s_turnsTaken, .int s_settled]), (a_s_given, eI 25 s_given), (a_s_numbers, eJ 25 s_numbers), (a_s_frees, eZ 4 s_frees), (a_s_uppers, eJ 4 s_uppers)] := by
  induction N generalizing x3 s_given with
  | zero => exact absurd hN (fun h => itr_0 h)
  | succ N ih =>
    obtain ⟨x, hx, hN⟩ := itr_s hN
    refine bX0_begin_L12 C h0 a_s_given a_s_numbers a_s_frees a_s_uppers s_n s_m s_turnsTaken s_settled s_numbers s_frees s_uppers x3 s_given x hx (fun x3' s_given' h => ih x3' s_given' (by subst h; exact hN)) (fun y0 h => he0 y0 (by subst h; exact (Option.some.inj hN).symm))
def fX0_begin (p0 : Int32) (p1 : Int32) (s_n : Int32) (s_m : Int32) (s_given : Nat → Int32) : Option ((Int32) × (Int32) × (Nat → Int32)) := Option.bind (itr (fX0_begin_L12) KF ((0 : Int32), s_given)) (fun u_5 => some (p0, p1, u_5))
set_option maxHeartbeats 4000000 in
set_option maxRecDepth 100000 in
theorem kX0_begin {l : Launch} (h0 : Nat) (a_s_given : Nat) (a_s_numbers : Nat) (a_s_frees : Nat) (a_s_uppers : Nat) (s_n : Int32) (s_m : Int32) (s_turnsTaken : Int32) (s_settled : Int32) (s_given : Nat → Int32) (s_numbers : Nat → Int64) (s_frees : Nat → Int32) (s_uppers : Nat → Int64) (p0 : Int32) (p1 : Int32) (o_s_n : Int32) (o_s_m : Int32) (o_s_given : Nat → Int32) (hm : fX0_begin p0 p1 s_n s_m s_given = some (o_s_n, o_s_m, o_s_given)) : CtV l yX0_begin wsX0_begin ({ frames := 0, cells := 0, slots := 0, locals := 0 } : Room) [.ref h0, .int p0, .int p1] [(h0, eO 0 [.ref a_s_given, .ref a_s_numbers, .ref a_s_frees, .ref a_s_uppers, .int s_n, .int s_m, .int s_turnsTaken, .int s_settled]), (a_s_given, eI 25 s_given), (a_s_numbers, eJ 25 s_numbers), (a_s_frees, eZ 4 s_frees), (a_s_uppers, eJ 4 s_uppers)] [(h0, eO 0 [.ref a_s_given, .ref a_s_numbers, .ref a_s_frees, .ref a_s_uppers, .int o_s_n, .int o_s_m, .int s_turnsTaken, .int s_settled]), (a_s_given, eI 25 o_s_given), (a_s_numbers, eJ 25 s_numbers), (a_s_frees, eZ 4 s_frees), (a_s_uppers, eJ 4 s_uppers)] := by
  refine CtV_of (cc := cX0_begin) (maxL := 4) (own := RX0) rfl (by decide) rfl (lv0 := [(0, .ref h0), (1, .int p0), (2, .int p1)]) rfl (Nat.le_of_ble_eq_true rfl) (fun Γ hL C hR => ?_)
  subst hL
  unfold fX0_begin at hm
  refine V_aload_n C 0 dX0_begin_0 rfl rfl ?_
  refine V_iload_n C 1 dX0_begin_1 rfl rfl ?_
  refine V_put C (ty := .int) uX0_begin_X0 tyX0 tyX0_ok nmX0 0 4 rfl rfl (by decide) mX0_begin_1 rfl (by decide +kernel) rfl rfl (Nat.le_of_ble_eq_true rfl) dX0_begin_2 (ws' := [(h0, eO 0 [.ref a_s_given, .ref a_s_numbers, .ref a_s_frees, .ref a_s_uppers, .int p0, .int s_m, .int s_turnsTaken, .int s_settled]), (a_s_given, eI 25 s_given), (a_s_numbers, eJ 25 s_numbers), (a_s_frees, eZ 4 s_frees), (a_s_uppers, eJ 4 s_uppers)]) rfl ?_
  refine V_aload_n C 0 dX0_begin_5 rfl rfl ?_
  refine V_iload_n C 2 dX0_begin_6 rfl rfl ?_
  refine V_put C (ty := .int) uX0_begin_X0 tyX0 tyX0_ok nmX0 0 5 rfl rfl (by decide) mX0_begin_2 rfl (by decide +kernel) rfl rfl (Nat.le_of_ble_eq_true rfl) dX0_begin_7 (ws' := [(h0, eO 0 [.ref a_s_given, .ref a_s_numbers, .ref a_s_frees, .ref a_s_uppers, .int p0, .int p1, .int s_turnsTaken, .int s_settled]), (a_s_given, eI 25 s_given), (a_s_numbers, eJ 25 s_numbers), (a_s_frees, eZ 4 s_frees), (a_s_uppers, eJ 4 s_uppers)]) rfl ?_
  refine V_iconst C (v := (0 : Int32)) dX0_begin_10 (by decide) ?_
  refine V_istore_n C (lv' := [(3, .int (0 : Int32)), (0, .ref h0), (1, .int p0), (2, .int p1)]) dX0_begin_11 rfl (by decide) rfl ?_
  obtain ⟨u_5, hE_4, hm⟩ := bnd hm
  refine V_lv [1, 0] rfl ?_
  refine lX0_begin_L12 C h0 a_s_given a_s_numbers a_s_frees a_s_uppers p0 p1 s_turnsTaken s_settled s_numbers s_frees s_uppers (0 : Int32) s_given KF _ hE_4 ?_
  intro q_6 hq
  cases hq
  cases hm
  exact hR _ _ dX0_begin_34
theorem hdX0_begin : yX0_begin.cls = RX0 ∧ yX0_begin.cls ≠ "java/lang/invoke/MethodHandle" ∧ yX0_begin.cls ≠ "java/lang/invoke/VarHandle" ∧ (parseMethodDescriptor yX0_begin.desc).map (fun d => d.parameters.length) = some 2 := by decide +kernel
-- RodBoard$Clearing.has(II)Z
theorem uX0_has_X0 : ∀ w ∈ wsX00, w ∈ wsX0_has := fun _ h => List.mem_cons_of_mem _ (List.mem_append_right _ h)
theorem mX0_has_1 : Cond.fieldLink RX0 30 "RodBoard$Clearing" "m" "I" ∈ wsX0_has := List.mem_of_getElem? (i := 1) rfl
theorem mX0_has_2 : Cond.fieldLink RX0 26 "RodBoard$Clearing" "n" "I" ∈ wsX0_has := List.mem_of_getElem? (i := 2) rfl
def fX0_has (p0 : Int32) (p1 : Int32) (s_n : Int32) (s_m : Int32) : Option ((Int32)) := if p0 < (0 : Int32) then some (0 : Int32) else if p0 < s_m then if p1 < (0 : Int32) then some (0 : Int32) else if s_n < p1 then some (0 : Int32) else some (1 : Int32) else some (0 : Int32)
set_option maxHeartbeats 4000000 in
set_option maxRecDepth 100000 in
theorem kX0_has {l : Launch} (h0 : Nat) (a_s_given : Nat) (a_s_numbers : Nat) (a_s_frees : Nat) (a_s_uppers : Nat) (s_n : Int32) (s_m : Int32) (s_turnsTaken : Int32) (s_settled : Int32) (s_given : Nat → Int32) (s_numbers : Nat → Int64) (s_frees : Nat → Int32) (s_uppers : Nat → Int64) (p0 : Int32) (p1 : Int32) (r : Int32) (hm : fX0_has p0 p1 s_n s_m = some r) : CtI l yX0_has wsX0_has ({ frames := 0, cells := 0, slots := 0, locals := 0 } : Room) [.ref h0, .int p0, .int p1] [(h0, eO 0 [.ref a_s_given, .ref a_s_numbers, .ref a_s_frees, .ref a_s_uppers, .int s_n, .int s_m, .int s_turnsTaken, .int s_settled]), (a_s_given, eI 25 s_given), (a_s_numbers, eJ 25 s_numbers), (a_s_frees, eZ 4 s_frees), (a_s_uppers, eJ 4 s_uppers)] r [(h0, eO 0 [.ref a_s_given, .ref a_s_numbers, .ref a_s_frees, .ref a_s_uppers, .int s_n, .int s_m, .int s_turnsTaken, .int s_settled]), (a_s_given, eI 25 s_given), (a_s_numbers, eJ 25 s_numbers), (a_s_frees, eZ 4 s_frees), (a_s_uppers, eJ 4 s_uppers)] := by
  refine CtI_of (cc := cX0_has) (maxL := 3) (ty := .boolean) (own := RX0) rfl (by decide) rfl (lv0 := [(0, .ref h0), (1, .int p0), (2, .int p1)]) rfl (Nat.le_of_ble_eq_true rfl) (fun Γ hL C hR => ?_)
  subst hL
  unfold fX0_has at hm
  refine V_iload_n C 1 dX0_has_0 rfl rfl ?_
  refine V_if_lt C 28 dX0_has_1 (by decide) (fun c_1 => ?_) (fun c_1 => ?_)
  · have hm := ite_t c_1 hm
    refine V_iconst C (v := (0 : Int32)) dX0_has_28 (by decide) ?_
    cases hm
    exact hR _ _ rfl dX0_has_29
  · have hm := ite_f c_1 hm
    refine V_iload_n C 1 dX0_has_4 rfl rfl ?_
    refine V_aload_n C 0 dX0_has_5 rfl rfl ?_
    refine V_get C uX0_has_X0 0 5 rfl rfl (by decide) mX0_has_1 rfl dX0_has_6 ?_
    refine V_icmp_ge C 28 dX0_has_9 (by decide) (fun c_2 => ?_) (fun c_2 => ?_)
    · have hm := ite_t c_2 hm
      refine V_iload_n C 2 dX0_has_12 rfl rfl ?_
      refine V_if_lt C 28 dX0_has_13 (by decide) (fun c_3 => ?_) (fun c_3 => ?_)
      · have hm := ite_t c_3 hm
        refine V_iconst C (v := (0 : Int32)) dX0_has_28 (by decide) ?_
        cases hm
        exact hR _ _ rfl dX0_has_29
      · have hm := ite_f c_3 hm
        refine V_iload_n C 2 dX0_has_16 rfl rfl ?_
        refine V_aload_n C 0 dX0_has_17 rfl rfl ?_
        refine V_get C uX0_has_X0 0 4 rfl rfl (by decide) mX0_has_2 rfl dX0_has_18 ?_
        refine V_icmp_gt C 28 dX0_has_21 (by decide) (fun c_4 => ?_) (fun c_4 => ?_)
        · have hm := ite_t c_4 hm
          refine V_iconst C (v := (0 : Int32)) dX0_has_28 (by decide) ?_
          cases hm
          exact hR _ _ rfl dX0_has_29
        · have hm := ite_f c_4 hm
          refine V_iconst C (v := (1 : Int32)) dX0_has_24 (by decide) ?_
          refine V_goto C 29 dX0_has_25 (by decide) ?_
          cases hm
          exact hR _ _ rfl dX0_has_29
    · have hm := ite_f c_2 hm
      refine V_iconst C (v := (0 : Int32)) dX0_has_28 (by decide) ?_
      cases hm
      exact hR _ _ rfl dX0_has_29
theorem hdX0_has : yX0_has.cls = RX0 ∧ yX0_has.cls ≠ "java/lang/invoke/MethodHandle" ∧ yX0_has.cls ≠ "java/lang/invoke/VarHandle" ∧ (parseMethodDescriptor yX0_has.desc).map (fun d => d.parameters.length) = some 2 := by decide +kernel
-- RodBoard$Clearing.isUnknown(I)Z
theorem uX0_isUnknown_X0 : ∀ w ∈ wsX00, w ∈ wsX0_isUnknown := fun _ h => List.mem_cons_of_mem _ (List.mem_append_right _ h)
theorem mX0_isUnknown_1 : Cond.fieldLink RX0 26 "RodBoard$Clearing" "n" "I" ∈ wsX0_isUnknown := List.mem_of_getElem? (i := 1) rfl
def fX0_isUnknown (p0 : Int32) (s_n : Int32) : Option ((Int32)) := if p0 < (0 : Int32) then some (0 : Int32) else if p0 < s_n then some (1 : Int32) else some (0 : Int32)
set_option maxHeartbeats 4000000 in
set_option maxRecDepth 100000 in
theorem kX0_isUnknown {l : Launch} (h0 : Nat) (a_s_given : Nat) (a_s_numbers : Nat) (a_s_frees : Nat) (a_s_uppers : Nat) (s_n : Int32) (s_m : Int32) (s_turnsTaken : Int32) (s_settled : Int32) (s_given : Nat → Int32) (s_numbers : Nat → Int64) (s_frees : Nat → Int32) (s_uppers : Nat → Int64) (p0 : Int32) (r : Int32) (hm : fX0_isUnknown p0 s_n = some r) : CtI l yX0_isUnknown wsX0_isUnknown ({ frames := 0, cells := 0, slots := 0, locals := 0 } : Room) [.ref h0, .int p0] [(h0, eO 0 [.ref a_s_given, .ref a_s_numbers, .ref a_s_frees, .ref a_s_uppers, .int s_n, .int s_m, .int s_turnsTaken, .int s_settled]), (a_s_given, eI 25 s_given), (a_s_numbers, eJ 25 s_numbers), (a_s_frees, eZ 4 s_frees), (a_s_uppers, eJ 4 s_uppers)] r [(h0, eO 0 [.ref a_s_given, .ref a_s_numbers, .ref a_s_frees, .ref a_s_uppers, .int s_n, .int s_m, .int s_turnsTaken, .int s_settled]), (a_s_given, eI 25 s_given), (a_s_numbers, eJ 25 s_numbers), (a_s_frees, eZ 4 s_frees), (a_s_uppers, eJ 4 s_uppers)] := by
  refine CtI_of (cc := cX0_isUnknown) (maxL := 2) (ty := .boolean) (own := RX0) rfl (by decide) rfl (lv0 := [(0, .ref h0), (1, .int p0)]) rfl (Nat.le_of_ble_eq_true rfl) (fun Γ hL C hR => ?_)
  subst hL
  unfold fX0_isUnknown at hm
  refine V_iload_n C 1 dX0_isUnknown_0 rfl rfl ?_
  refine V_if_lt C 16 dX0_isUnknown_1 (by decide) (fun c_1 => ?_) (fun c_1 => ?_)
  · have hm := ite_t c_1 hm
    refine V_iconst C (v := (0 : Int32)) dX0_isUnknown_16 (by decide) ?_
    cases hm
    exact hR _ _ rfl dX0_isUnknown_17
  · have hm := ite_f c_1 hm
    refine V_iload_n C 1 dX0_isUnknown_4 rfl rfl ?_
    refine V_aload_n C 0 dX0_isUnknown_5 rfl rfl ?_
    refine V_get C uX0_isUnknown_X0 0 4 rfl rfl (by decide) mX0_isUnknown_1 rfl dX0_isUnknown_6 ?_
    refine V_icmp_ge C 16 dX0_isUnknown_9 (by decide) (fun c_2 => ?_) (fun c_2 => ?_)
    · have hm := ite_t c_2 hm
      refine V_iconst C (v := (1 : Int32)) dX0_isUnknown_12 (by decide) ?_
      refine V_goto C 17 dX0_isUnknown_13 (by decide) ?_
      cases hm
      exact hR _ _ rfl dX0_isUnknown_17
    · have hm := ite_f c_2 hm
      refine V_iconst C (v := (0 : Int32)) dX0_isUnknown_16 (by decide) ?_
      cases hm
      exact hR _ _ rfl dX0_isUnknown_17
theorem hdX0_isUnknown : yX0_isUnknown.cls = RX0 ∧ yX0_isUnknown.cls ≠ "java/lang/invoke/MethodHandle" ∧ yX0_isUnknown.cls ≠ "java/lang/invoke/VarHandle" ∧ (parseMethodDescriptor yX0_isUnknown.desc).map (fun d => d.parameters.length) = some 1 := by decide +kernel
-- RodBoard$Clearing.exchangeGiven(III)I
theorem uX0_exchangeGiven_X0 : ∀ w ∈ wsX00, w ∈ wsX0_exchangeGiven := fun _ h => List.mem_cons_of_mem _ (List.mem_append_right _ h)
theorem mX0_exchangeGiven_1 : Cond.fieldLink RX0 11 "RodBoard$Clearing" "given" "[I" ∈ wsX0_exchangeGiven := List.mem_of_getElem? (i := 1) rfl
def fX0_exchangeGiven (p0 : Int32) (p1 : Int32) (p2 : Int32) (s_given : Nat → Int32) : Option ((Int32) × (Nat → Int32)) := if ((p0 * (5 : Int32)) + p1) < (0 : Int32) then some ((0 : Int32), s_given) else if ((p0 * (5 : Int32)) + p1) < (25 : Int32) then Option.bind (rdI s_given 25 ((p0 * (5 : Int32)) + p1)) (fun v_3 => Option.bind (wrI s_given 25 ((p0 * (5 : Int32)) + p1) p2) (fun g_4 => some (v_3, g_4))) else some ((0 : Int32), s_given)
set_option maxHeartbeats 4000000 in
set_option maxRecDepth 100000 in
theorem kX0_exchangeGiven {l : Launch} (h0 : Nat) (a_s_given : Nat) (a_s_numbers : Nat) (a_s_frees : Nat) (a_s_uppers : Nat) (s_n : Int32) (s_m : Int32) (s_turnsTaken : Int32) (s_settled : Int32) (s_given : Nat → Int32) (s_numbers : Nat → Int64) (s_frees : Nat → Int32) (s_uppers : Nat → Int64) (p0 : Int32) (p1 : Int32) (p2 : Int32) (r : Int32) (o_s_given : Nat → Int32) (hm : fX0_exchangeGiven p0 p1 p2 s_given = some (r, o_s_given)) : CtI l yX0_exchangeGiven wsX0_exchangeGiven ({ frames := 0, cells := 0, slots := 0, locals := 0 } : Room) [.ref h0, .int p0, .int p1, .int p2] [(h0, eO 0 [.ref a_s_given, .ref a_s_numbers, .ref a_s_frees, .ref a_s_uppers, .int s_n, .int s_m, .int s_turnsTaken, .int s_settled]), (a_s_given, eI 25 s_given), (a_s_numbers, eJ 25 s_numbers), (a_s_frees, eZ 4 s_frees), (a_s_uppers, eJ 4 s_uppers)] r [(h0, eO 0 [.ref a_s_given, .ref a_s_numbers, .ref a_s_frees, .ref a_s_uppers, .int s_n, .int s_m, .int s_turnsTaken, .int s_settled]), (a_s_given, eI 25 o_s_given), (a_s_numbers, eJ 25 s_numbers), (a_s_frees, eZ 4 s_frees), (a_s_uppers, eJ 4 s_uppers)] := by
  refine CtI_of (cc := cX0_exchangeGiven) (maxL := 6) (ty := .int) (own := RX0) rfl (by decide) rfl (lv0 := [(0, .ref h0), (1, .int p0), (2, .int p1), (3, .int p2)]) rfl (Nat.le_of_ble_eq_true rfl) (fun Γ hL C hR => ?_)
  subst hL
  unfold fX0_exchangeGiven at hm
  refine V_iload_n C 1 dX0_exchangeGiven_0 rfl rfl ?_
  refine V_iconst C (v := (5 : Int32)) dX0_exchangeGiven_1 (by decide) ?_
  refine V_imul C dX0_exchangeGiven_2 ?_
  refine V_iload_n C 2 dX0_exchangeGiven_3 rfl rfl ?_
  refine V_iadd C dX0_exchangeGiven_4 ?_
  refine V_istore C (lv' := [(4, .int ((p0 * (5 : Int32)) + p1)), (0, .ref h0), (1, .int p0), (2, .int p1), (3, .int p2)]) dX0_exchangeGiven_5 (by decide) rfl ?_
  refine V_iload C 0 dX0_exchangeGiven_7 rfl ?_
  refine V_if_lt C 22 dX0_exchangeGiven_9 (by decide) (fun c_1 => ?_) (fun c_1 => ?_)
  · have hm := ite_t c_1 hm
    refine V_iconst C (v := (0 : Int32)) dX0_exchangeGiven_22 (by decide) ?_
    cases hm
    exact hR _ _ rfl dX0_exchangeGiven_23
  · have hm := ite_f c_1 hm
    refine V_iload C 0 dX0_exchangeGiven_12 rfl ?_
    refine V_aload_n C 1 dX0_exchangeGiven_14 rfl rfl ?_
    refine V_get C uX0_exchangeGiven_X0 0 0 rfl rfl (by decide) mX0_exchangeGiven_1 rfl dX0_exchangeGiven_15 ?_
    refine V_alen C (v := (25 : Int32)) 1 0 rfl rfl rfl rfl dX0_exchangeGiven_18 ?_
    refine V_icmp_lt C 24 dX0_exchangeGiven_19 (by decide) (fun c_2 => ?_) (fun c_2 => ?_)
    · have hm := ite_t c_2 hm
      refine V_aload_n C 1 dX0_exchangeGiven_24 rfl rfl ?_
      refine V_get C uX0_exchangeGiven_X0 0 0 rfl rfl (by decide) mX0_exchangeGiven_1 rfl dX0_exchangeGiven_25 ?_
      refine V_iload C 0 dX0_exchangeGiven_28 rfl ?_
      obtain ⟨v_3, hv_3, hm⟩ := bnd hm
      refine V_iald C 1 rfl hv_3 dX0_exchangeGiven_30 ?_
      refine V_istore C (lv' := [(5, .int v_3), (4, .int ((p0 * (5 : Int32)) + p1)), (0, .ref h0), (1, .int p0), (2, .int p1), (3, .int p2)]) dX0_exchangeGiven_31 (by decide) rfl ?_
      refine V_aload_n C 2 dX0_exchangeGiven_33 rfl rfl ?_
      refine V_get C uX0_exchangeGiven_X0 0 0 rfl rfl (by decide) mX0_exchangeGiven_1 rfl dX0_exchangeGiven_34 ?_
      refine V_iload C 1 dX0_exchangeGiven_37 rfl ?_
      refine V_iload_n C 5 dX0_exchangeGiven_39 rfl rfl ?_
      obtain ⟨g_4, hg_4, hm⟩ := bnd hm
      refine V_iast C 1 rfl hg_4 dX0_exchangeGiven_40 (ws' := [(h0, eO 0 [.ref a_s_given, .ref a_s_numbers, .ref a_s_frees, .ref a_s_uppers, .int s_n, .int s_m, .int s_turnsTaken, .int s_settled]), (a_s_given, eI 25 g_4), (a_s_numbers, eJ 25 s_numbers), (a_s_frees, eZ 4 s_frees), (a_s_uppers, eJ 4 s_uppers)]) rfl ?_
      refine V_iload C 0 dX0_exchangeGiven_41 rfl ?_
      cases hm
      exact hR _ _ rfl dX0_exchangeGiven_43
    · have hm := ite_f c_2 hm
      refine V_iconst C (v := (0 : Int32)) dX0_exchangeGiven_22 (by decide) ?_
      cases hm
      exact hR _ _ rfl dX0_exchangeGiven_23
theorem hdX0_exchangeGiven : yX0_exchangeGiven.cls = RX0 ∧ yX0_exchangeGiven.cls ≠ "java/lang/invoke/MethodHandle" ∧ yX0_exchangeGiven.cls ≠ "java/lang/invoke/VarHandle" ∧ (parseMethodDescriptor yX0_exchangeGiven.desc).map (fun d => d.parameters.length) = some 3 := by decide +kernel
-- RodBoard$Clearing.cell(II)J
theorem uX0_cell_X0 : ∀ w ∈ wsX00, w ∈ wsX0_cell := fun _ h => List.mem_cons_of_mem _ (List.mem_append_right _ h)
theorem mX0_cell_1 : Cond.fieldLink RX0 15 "RodBoard$Clearing" "numbers" "[J" ∈ wsX0_cell := List.mem_of_getElem? (i := 1) rfl
def fX0_cell (p0 : Int32) (p1 : Int32) (s_numbers : Nat → Int64) : Option ((Int64)) := if ((p0 * (5 : Int32)) + p1) < (0 : Int32) then some (0 : Int64) else if ((p0 * (5 : Int32)) + p1) < (25 : Int32) then Option.bind (rdJ s_numbers 25 ((p0 * (5 : Int32)) + p1)) (fun v_3 => some v_3) else some (0 : Int64)
set_option maxHeartbeats 4000000 in
set_option maxRecDepth 100000 in
theorem kX0_cell {l : Launch} (h0 : Nat) (a_s_given : Nat) (a_s_numbers : Nat) (a_s_frees : Nat) (a_s_uppers : Nat) (s_n : Int32) (s_m : Int32) (s_turnsTaken : Int32) (s_settled : Int32) (s_given : Nat → Int32) (s_numbers : Nat → Int64) (s_frees : Nat → Int32) (s_uppers : Nat → Int64) (p0 : Int32) (p1 : Int32) (r : Int64) (hm : fX0_cell p0 p1 s_numbers = some r) : CtL l yX0_cell wsX0_cell ({ frames := 0, cells := 0, slots := 0, locals := 0 } : Room) [.ref h0, .int p0, .int p1] [(h0, eO 0 [.ref a_s_given, .ref a_s_numbers, .ref a_s_frees, .ref a_s_uppers, .int s_n, .int s_m, .int s_turnsTaken, .int s_settled]), (a_s_given, eI 25 s_given), (a_s_numbers, eJ 25 s_numbers), (a_s_frees, eZ 4 s_frees), (a_s_uppers, eJ 4 s_uppers)] r [(h0, eO 0 [.ref a_s_given, .ref a_s_numbers, .ref a_s_frees, .ref a_s_uppers, .int s_n, .int s_m, .int s_turnsTaken, .int s_settled]), (a_s_given, eI 25 s_given), (a_s_numbers, eJ 25 s_numbers), (a_s_frees, eZ 4 s_frees), (a_s_uppers, eJ 4 s_uppers)] := by
  refine CtL_of (cc := cX0_cell) (maxL := 4) (own := RX0) rfl (by decide) rfl (lv0 := [(0, .ref h0), (1, .int p0), (2, .int p1)]) rfl (Nat.le_of_ble_eq_true rfl) (fun Γ hL C hR => ?_)
  subst hL
  unfold fX0_cell at hm
  refine V_iload_n C 1 dX0_cell_0 rfl rfl ?_
  refine V_iconst C (v := (5 : Int32)) dX0_cell_1 (by decide) ?_
  refine V_imul C dX0_cell_2 ?_
  refine V_iload_n C 2 dX0_cell_3 rfl rfl ?_
  refine V_iadd C dX0_cell_4 ?_
  refine V_istore_n C (lv' := [(3, .int ((p0 * (5 : Int32)) + p1)), (0, .ref h0), (1, .int p0), (2, .int p1)]) dX0_cell_5 rfl (by decide) rfl ?_
  refine V_iload_n C 0 dX0_cell_6 rfl rfl ?_
  refine V_if_lt C 28 dX0_cell_7 (by decide) (fun c_1 => ?_) (fun c_1 => ?_)
  · have hm := ite_t c_1 hm
    refine V_lconst C (v := (0 : Int64)) dX0_cell_28 (by decide) ?_
    cases hm
    exact hR _ _ dX0_cell_29
  · have hm := ite_f c_1 hm
    refine V_iload_n C 0 dX0_cell_10 rfl rfl ?_
    refine V_aload_n C 1 dX0_cell_11 rfl rfl ?_
    refine V_get C uX0_cell_X0 0 1 rfl rfl (by decide) mX0_cell_1 rfl dX0_cell_12 ?_
    refine V_alen C (v := (25 : Int32)) 2 1 rfl rfl rfl rfl dX0_cell_15 ?_
    refine V_icmp_ge C 28 dX0_cell_16 (by decide) (fun c_2 => ?_) (fun c_2 => ?_)
    · have hm := ite_t c_2 hm
      refine V_aload_n C 1 dX0_cell_19 rfl rfl ?_
      refine V_get C uX0_cell_X0 0 1 rfl rfl (by decide) mX0_cell_1 rfl dX0_cell_20 ?_
      refine V_iload_n C 0 dX0_cell_23 rfl rfl ?_
      obtain ⟨v_3, hv_3, hm⟩ := bnd hm
      refine V_lald C 2 rfl hv_3 dX0_cell_24 ?_
      refine V_goto C 29 dX0_cell_25 (by decide) ?_
      cases hm
      exact hR _ _ dX0_cell_29
    · have hm := ite_f c_2 hm
      refine V_lconst C (v := (0 : Int64)) dX0_cell_28 (by decide) ?_
      cases hm
      exact hR _ _ dX0_cell_29
theorem hdX0_cell : yX0_cell.cls = RX0 ∧ yX0_cell.cls ≠ "java/lang/invoke/MethodHandle" ∧ yX0_cell.cls ≠ "java/lang/invoke/VarHandle" ∧ (parseMethodDescriptor yX0_cell.desc).map (fun d => d.parameters.length) = some 2 := by decide +kernel
-- RodBoard$Clearing.put(IIJ)V
theorem uX0_put_X0 : ∀ w ∈ wsX00, w ∈ wsX0_put := fun _ h => List.mem_cons_of_mem _ (List.mem_append_right _ h)
theorem mX0_put_1 : Cond.fieldLink RX0 15 "RodBoard$Clearing" "numbers" "[J" ∈ wsX0_put := List.mem_of_getElem? (i := 1) rfl
def fX0_put (p0 : Int32) (p1 : Int32) (p2 : Int64) (s_numbers : Nat → Int64) : Option ((Nat → Int64)) := if ((p0 * (5 : Int32)) + p1) < (0 : Int32) then some s_numbers else if ((p0 * (5 : Int32)) + p1) < (25 : Int32) then Option.bind (wrJ s_numbers 25 ((p0 * (5 : Int32)) + p1) p2) (fun g_3 => some g_3) else some s_numbers
set_option maxHeartbeats 4000000 in
set_option maxRecDepth 100000 in
theorem kX0_put {l : Launch} (h0 : Nat) (a_s_given : Nat) (a_s_numbers : Nat) (a_s_frees : Nat) (a_s_uppers : Nat) (s_n : Int32) (s_m : Int32) (s_turnsTaken : Int32) (s_settled : Int32) (s_given : Nat → Int32) (s_numbers : Nat → Int64) (s_frees : Nat → Int32) (s_uppers : Nat → Int64) (p0 : Int32) (p1 : Int32) (p2 : Int64) (o_s_numbers : Nat → Int64) (hm : fX0_put p0 p1 p2 s_numbers = some o_s_numbers) : CtV l yX0_put wsX0_put ({ frames := 0, cells := 0, slots := 0, locals := 0 } : Room) [.ref h0, .int p0, .int p1, .long p2] [(h0, eO 0 [.ref a_s_given, .ref a_s_numbers, .ref a_s_frees, .ref a_s_uppers, .int s_n, .int s_m, .int s_turnsTaken, .int s_settled]), (a_s_given, eI 25 s_given), (a_s_numbers, eJ 25 s_numbers), (a_s_frees, eZ 4 s_frees), (a_s_uppers, eJ 4 s_uppers)] [(h0, eO 0 [.ref a_s_given, .ref a_s_numbers, .ref a_s_frees, .ref a_s_uppers, .int s_n, .int s_m, .int s_turnsTaken, .int s_settled]), (a_s_given, eI 25 s_given), (a_s_numbers, eJ 25 o_s_numbers), (a_s_frees, eZ 4 s_frees), (a_s_uppers, eJ 4 s_uppers)] := by
  refine CtV_of (cc := cX0_put) (maxL := 6) (own := RX0) rfl (by decide) rfl (lv0 := [(0, .ref h0), (1, .int p0), (2, .int p1), (3, .long p2)]) rfl (Nat.le_of_ble_eq_true rfl) (fun Γ hL C hR => ?_)
  subst hL
  unfold fX0_put at hm
  refine V_iload_n C 1 dX0_put_0 rfl rfl ?_
  refine V_iconst C (v := (5 : Int32)) dX0_put_1 (by decide) ?_
  refine V_imul C dX0_put_2 ?_
  refine V_iload_n C 2 dX0_put_3 rfl rfl ?_
  refine V_iadd C dX0_put_4 ?_
  refine V_istore C (lv' := [(5, .int ((p0 * (5 : Int32)) + p1)), (0, .ref h0), (1, .int p0), (2, .int p1), (3, .long p2)]) dX0_put_5 (by decide) rfl ?_
  refine V_iload C 0 dX0_put_7 rfl ?_
  refine V_if_lt C 30 dX0_put_9 (by decide) (fun c_1 => ?_) (fun c_1 => ?_)
  · have hm := ite_t c_1 hm
    cases hm
    exact hR _ _ dX0_put_30
  · have hm := ite_f c_1 hm
    refine V_iload C 0 dX0_put_12 rfl ?_
    refine V_aload_n C 1 dX0_put_14 rfl rfl ?_
    refine V_get C uX0_put_X0 0 1 rfl rfl (by decide) mX0_put_1 rfl dX0_put_15 ?_
    refine V_alen C (v := (25 : Int32)) 2 1 rfl rfl rfl rfl dX0_put_18 ?_
    refine V_icmp_ge C 30 dX0_put_19 (by decide) (fun c_2 => ?_) (fun c_2 => ?_)
    · have hm := ite_t c_2 hm
      refine V_aload_n C 1 dX0_put_22 rfl rfl ?_
      refine V_get C uX0_put_X0 0 1 rfl rfl (by decide) mX0_put_1 rfl dX0_put_23 ?_
      refine V_iload C 0 dX0_put_26 rfl ?_
      refine V_lload_n C 4 dX0_put_28 rfl rfl ?_
      obtain ⟨g_3, hg_3, hm⟩ := bnd hm
      refine V_last C 2 rfl hg_3 dX0_put_29 (ws' := [(h0, eO 0 [.ref a_s_given, .ref a_s_numbers, .ref a_s_frees, .ref a_s_uppers, .int s_n, .int s_m, .int s_turnsTaken, .int s_settled]), (a_s_given, eI 25 s_given), (a_s_numbers, eJ 25 g_3), (a_s_frees, eZ 4 s_frees), (a_s_uppers, eJ 4 s_uppers)]) rfl ?_
      cases hm
      exact hR _ _ dX0_put_30
    · have hm := ite_f c_2 hm
      cases hm
      exact hR _ _ dX0_put_30
theorem hdX0_put : yX0_put.cls = RX0 ∧ yX0_put.cls ≠ "java/lang/invoke/MethodHandle" ∧ yX0_put.cls ≠ "java/lang/invoke/VarHandle" ∧ (parseMethodDescriptor yX0_put.desc).map (fun d => d.parameters.length) = some 3 := by decide +kernel
-- RodBoard$Clearing.isFree(I)Z
theorem uX0_isFree_X0 : ∀ w ∈ wsX00, w ∈ wsX0_isFree := fun _ h => List.mem_cons_of_mem _ (List.mem_append_right _ h)
theorem mX0_isFree_1 : Cond.fieldLink RX0 19 "RodBoard$Clearing" "frees" "[Z" ∈ wsX0_isFree := List.mem_of_getElem? (i := 1) rfl
def fX0_isFree (p0 : Int32) (s_frees : Nat → Int32) : Option ((Int32)) := if p0 < (0 : Int32) then some (0 : Int32) else if p0 < (4 : Int32) then Option.bind (rdI s_frees 4 p0) (fun v_3 => if v_3 = (0 : Int32) then some (0 : Int32) else some (1 : Int32)) else some (0 : Int32)
set_option maxHeartbeats 4000000 in
set_option maxRecDepth 100000 in
theorem kX0_isFree {l : Launch} (h0 : Nat) (a_s_given : Nat) (a_s_numbers : Nat) (a_s_frees : Nat) (a_s_uppers : Nat) (s_n : Int32) (s_m : Int32) (s_turnsTaken : Int32) (s_settled : Int32) (s_given : Nat → Int32) (s_numbers : Nat → Int64) (s_frees : Nat → Int32) (s_uppers : Nat → Int64) (p0 : Int32) (r : Int32) (hm : fX0_isFree p0 s_frees = some r) : CtI l yX0_isFree wsX0_isFree ({ frames := 0, cells := 0, slots := 0, locals := 0 } : Room) [.ref h0, .int p0] [(h0, eO 0 [.ref a_s_given, .ref a_s_numbers, .ref a_s_frees, .ref a_s_uppers, .int s_n, .int s_m, .int s_turnsTaken, .int s_settled]), (a_s_given, eI 25 s_given), (a_s_numbers, eJ 25 s_numbers), (a_s_frees, eZ 4 s_frees), (a_s_uppers, eJ 4 s_uppers)] r [(h0, eO 0 [.ref a_s_given, .ref a_s_numbers, .ref a_s_frees, .ref a_s_uppers, .int s_n, .int s_m, .int s_turnsTaken, .int s_settled]), (a_s_given, eI 25 s_given), (a_s_numbers, eJ 25 s_numbers), (a_s_frees, eZ 4 s_frees), (a_s_uppers, eJ 4 s_uppers)] := by
  refine CtI_of (cc := cX0_isFree) (maxL := 2) (ty := .boolean) (own := RX0) rfl (by decide) rfl (lv0 := [(0, .ref h0), (1, .int p0)]) rfl (Nat.le_of_ble_eq_true rfl) (fun Γ hL C hR => ?_)
  subst hL
  unfold fX0_isFree at hm
  refine V_iload_n C 1 dX0_isFree_0 rfl rfl ?_
  refine V_if_lt C 26 dX0_isFree_1 (by decide) (fun c_1 => ?_) (fun c_1 => ?_)
  · have hm := ite_t c_1 hm
    refine V_iconst C (v := (0 : Int32)) dX0_isFree_26 (by decide) ?_
    cases hm
    exact hR _ _ rfl dX0_isFree_27
  · have hm := ite_f c_1 hm
    refine V_iload_n C 1 dX0_isFree_4 rfl rfl ?_
    refine V_aload_n C 0 dX0_isFree_5 rfl rfl ?_
    refine V_get C uX0_isFree_X0 0 2 rfl rfl (by decide) mX0_isFree_1 rfl dX0_isFree_6 ?_
    refine V_alen C (v := (4 : Int32)) 3 2 rfl rfl rfl rfl dX0_isFree_9 ?_
    refine V_icmp_ge C 26 dX0_isFree_10 (by decide) (fun c_2 => ?_) (fun c_2 => ?_)
    · have hm := ite_t c_2 hm
      refine V_aload_n C 0 dX0_isFree_13 rfl rfl ?_
      refine V_get C uX0_isFree_X0 0 2 rfl rfl (by decide) mX0_isFree_1 rfl dX0_isFree_14 ?_
      refine V_iload_n C 1 dX0_isFree_17 rfl rfl ?_
      obtain ⟨v_3, hv_3, hm⟩ := bnd hm
      refine V_zald C 3 rfl hv_3 dX0_isFree_18 ?_
      refine V_if_eq C 26 dX0_isFree_19 (by decide) (fun c_4 => ?_) (fun c_4 => ?_)
      · have hm := ite_t c_4 hm
        refine V_iconst C (v := (0 : Int32)) dX0_isFree_26 (by decide) ?_
        cases hm
        exact hR _ _ rfl dX0_isFree_27
      · have hm := ite_f c_4 hm
        refine V_iconst C (v := (1 : Int32)) dX0_isFree_22 (by decide) ?_
        refine V_goto C 27 dX0_isFree_23 (by decide) ?_
        cases hm
        exact hR _ _ rfl dX0_isFree_27
    · have hm := ite_f c_2 hm
      refine V_iconst C (v := (0 : Int32)) dX0_isFree_26 (by decide) ?_
      cases hm
      exact hR _ _ rfl dX0_isFree_27
theorem hdX0_isFree : yX0_isFree.cls = RX0 ∧ yX0_isFree.cls ≠ "java/lang/invoke/MethodHandle" ∧ yX0_isFree.cls ≠ "java/lang/invoke/VarHandle" ∧ (parseMethodDescriptor yX0_isFree.desc).map (fun d => d.parameters.length) = some 1 := by decide +kernel
-- RodBoard$Clearing.firstWith(I)I
theorem uX0_firstWith_X0 : ∀ w ∈ wsX00, w ∈ wsX0_firstWith := fun _ h => List.mem_cons_of_mem _ (List.mem_append_right _ h)
theorem mX0_firstWith_1 : Cond.fieldLink RX0 36 "RodBoard$Clearing" "settled" "I" ∈ wsX0_firstWith := List.mem_of_getElem? (i := 1) rfl
theorem mX0_firstWith_2 : Cond.fieldLink RX0 30 "RodBoard$Clearing" "m" "I" ∈ wsX0_firstWith := List.mem_of_getElem? (i := 2) rfl
def fX0_firstWith_L5b (x1 : Int32) (s_m : Int32) (s_numbers : Nat → Int64) (x2 : Int32) : Option (((Int32)) ⊕ ((Unit) ⊕ ((Int32)))) := if x2 < s_m then Option.bind (fX0_cell x2 x1 s_numbers) (fun r_2 => if r_2 = (0 : Int64) then some (Sum.inl (x2 + (1 : Int32))) else some (Sum.inr (Sum.inr x2))) else some (Sum.inr (Sum.inl ()))
def fX0_firstWith_L5 (x1 : Int32) (s_m : Int32) (s_numbers : Nat → Int64) : ((Int32)) → Option (((Int32)) ⊕ ((Unit) ⊕ ((Int32)))) := fun e => fX0_firstWith_L5b x1 s_m s_numbers e
set_option maxHeartbeats 4000000 in
set_option maxRecDepth 100000 in
theorem bX0_firstWith_L5 {Γ : KT} (C : CX Γ cX0_firstWith 3 wsX0_firstWith RX0 ({ frames := 1, cells := 0, slots := 0, locals := 23 } : Room)) (h0 : Nat) (a_s_given : Nat) (a_s_numbers : Nat) (a_s_frees : Nat) (a_s_uppers : Nat) (x1 : Int32) (s_n : Int32) (s_m : Int32) (s_turnsTaken : Int32) (s_settled : Int32) (s_given : Nat → Int32) (s_numbers : Nat → Int64) (s_frees : Nat → Int32) (s_uppers : Nat → Int64) (x2 : Int32) (x : ((Int32)) ⊕ ((Unit) ⊕ ((Int32)))) (hm : fX0_firstWith_L5b x1 s_m s_numbers x2 = some x) (hb : (∀ (x2' : Int32), x = Sum.inl x2' → V Γ 3 0 0 5 [(0, .ref h0), (1, .int x1), (2, .int x2')] [] [(h0, eO 0 [.ref a_s_given, .ref a_s_numbers, .ref a_s_frees, .ref a_s_uppers, .int s_n, .int s_m, .int s_turnsTaken, .int s_settled]), (a_s_given, eI 25 s_given), (a_s_numbers, eJ 25 s_numbers), (a_s_frees, eZ 4 s_frees), (a_s_uppers, eJ 4 s_uppers)])) (he0 : (∀ (_ : Unit), x = Sum.inr (Sum.inl ()) → V Γ 3 0 0 32 [] [] [(h0, eO 0 [.ref a_s_given, .ref a_s_numbers, .ref a_s_frees, .ref a_s_uppers, .int s_n, .int s_m, .int s_turnsTaken, .int s_settled]), (a_s_given, eI 25 s_given), (a_s_numbers, eJ 25 s_numbers), (a_s_frees, eZ 4 s_frees), (a_s_uppers, eJ 4 s_uppers)])) (her : (∀ (r' : Int32), x = Sum.inr (Sum.inr r') → (∀ (pc : Nat) (lv : List (Nat × Value)), narrow .int (.int r') = .int r' → decode cX0_firstWith pc = .ok (.ireturn, 1) → V Γ 3 0 0 pc lv [.int r'] [(h0, eO 0 [.ref a_s_given, .ref a_s_numbers, .ref a_s_frees, .ref a_s_uppers, .int s_n, .int s_m, .int s_turnsTaken, .int s_settled]), (a_s_given, eI 25 s_given), (a_s_numbers, eJ 25 s_numbers), (a_s_frees, eZ 4 s_frees), (a_s_uppers, eJ 4 s_uppers)]))) : V Γ 3 0 0 5 [(0, .ref h0), (1, .int x1), (2, .int x2)] [] [(h0, eO 0 [.ref a_s_given, .ref a_s_numbers, .ref a_s_frees, .ref a_s_uppers, .int s_n, .int s_m, .int s_turnsTaken, .int s_settled]), (a_s_given, eI 25 s_given), (a_s_numbers, eJ 25 s_numbers), (a_s_frees, eZ 4 s_frees), (a_s_uppers, eJ 4 s_uppers)] := by
  unfold fX0_firstWith_L5b at hm
  refine V_iload_n C 2 dX0_firstWith_5 rfl rfl ?_
  refine V_aload_n C 0 dX0_firstWith_6 rfl rfl ?_
  refine V_get C uX0_firstWith_X0 0 5 rfl rfl (by decide) mX0_firstWith_2 rfl dX0_firstWith_7 ?_
  refine V_icmp_ge C 32 dX0_firstWith_10 (by decide) (fun c_1 => ?_) (fun c_1 => ?_)
  · have hm := ite_t c_1 hm
    refine V_aload_n C 0 dX0_firstWith_13 rfl rfl ?_
    refine V_iload_n C 2 dX0_firstWith_14 rfl rfl ?_
    refine V_iload_n C 1 dX0_firstWith_15 rfl rfl ?_
    obtain ⟨r_2, hc_3, hm⟩ := bnd hm
    refine V_callVL C (As := [.int x2, .int x1]) (wr := []) (ws2 := [(h0, eO 0 [.ref a_s_given, .ref a_s_numbers, .ref a_s_frees, .ref a_s_uppers, .int s_n, .int s_m, .int s_turnsTaken, .int s_settled]), (a_s_given, eI 25 s_given), (a_s_numbers, eJ 25 s_numbers), (a_s_frees, eZ 4 s_frees), (a_s_uppers, eJ 4 s_uppers)]) (kX0_cell h0 a_s_given a_s_numbers a_s_frees a_s_uppers s_n s_m s_turnsTaken s_settled s_given s_numbers s_frees s_uppers x2 x1 r_2 hc_3) gX0_firstWith_X0_cell rfl ⟨rfl, rfl⟩ hdX0_cell ⟨Nat.le_of_ble_eq_true rfl, Nat.le_of_ble_eq_true rfl⟩ ⟨Nat.zero_le _, Nat.zero_le _⟩ 0 rfl rfl [0, 1, 2, 3, 4] [] [0, 1, 2, 3, 4] rfl rfl ⟨rfl, rfl, rfl⟩ (by decide) rfl rfl (Nat.le_of_ble_eq_true rfl) dX0_firstWith_16 ?_
    refine V_lconst C (v := (0 : Int64)) dX0_firstWith_19 (by decide) ?_
    refine V_lcmp_eq C 26 dX0_firstWith_20 dX0_firstWith_21 (by decide) (fun c_4 => ?_) (fun c_4 => ?_)
    · have hm := ite_t c_4 hm
      refine V_iinc C 2 (v := x2 + (1 : Int32)) (lv' := [(2, .int (x2 + (1 : Int32))), (0, .ref h0), (1, .int x1)]) dX0_firstWith_26 rfl rfl (by decide) rfl ?_
      refine V_goto C 5 dX0_firstWith_29 (by decide) ?_
      refine V_lv [1, 2, 0] rfl ?_
      exact hb (x2 + (1 : Int32)) (Option.some.inj hm).symm
    · have hm := ite_f c_4 hm
      refine V_iload_n C 2 dX0_firstWith_24 rfl rfl ?_
      exact her x2 (Option.some.inj hm).symm _ _ rfl dX0_firstWith_25
  · have hm := ite_f c_1 hm
    refine V_lv [] rfl ?_
    exact he0 () (Option.some.inj hm).symm
theorem lX0_firstWith_L5 {Γ : KT} (C : CX Γ cX0_firstWith 3 wsX0_firstWith RX0 ({ frames := 1, cells := 0, slots := 0, locals := 23 } : Room)) (h0 : Nat) (a_s_given : Nat) (a_s_numbers : Nat) (a_s_frees : Nat) (a_s_uppers : Nat) (x1 : Int32) (s_n : Int32) (s_m : Int32) (s_turnsTaken : Int32) (s_settled : Int32) (s_given : Nat → Int32) (s_numbers : Nat → Int64) (s_frees : Nat → Int32) (s_uppers : Nat → Int64) (x2 : Int32) (N : Nat) (e : (Unit) ⊕ ((Int32))) (hN : itr (fX0_firstWith_L5 x1 s_m s_numbers) N x2 = some e) (he0 : (∀ (_ : Unit), e = Sum.inl () → V Γ 3 0 0 32 [] [] [(h0, eO 0 [.ref a_s_given, .ref a_s_numbers, .ref a_s_frees, .ref a_s_uppers, .int s_n, .int s_m, .int s_turnsTaken, .int s_settled]), (a_s_given, eI 25 s_given), (a_s_numbers, eJ 25 s_numbers), (a_s_frees, eZ 4 s_frees), (a_s_uppers, eJ 4 s_uppers)])) (her : (∀ (r' : Int32), e = Sum.inr r' → (∀ (pc : Nat) (lv : List (Nat × Value)), narrow .int (.int r') = .int r' → decode cX0_firstWith pc = .ok (.ireturn, 1) → V Γ 3 0 0 pc lv [.int r'] [(h0, eO 0 [.ref a_s_given, .ref a_s_numbers, .ref a_s_frees, .ref a_s_uppers, .int s_n, .int s_m, .int s_turnsTaken, .int s_settled]), (a_s_given, eI 25 s_given), (a_s_numbers, eJ 25 s_numbers), (a_s_frees, eZ 4 s_frees), (a_s_uppers, eJ 4 s_uppers)]))) : V Γ 3 0 0 5 [(0, .ref h0), (1, .int x1), (2, .int x2)] [] [(h0, eO 0 [.ref a_s_given, .ref a_s_numbers, .ref a_s_frees, .ref a_s_uppers, .int s_n, .int s_m, .int s_turnsTaken, .int s_settled]), (a_s_given, eI 25 s_given), (a_s_numbers, eJ 25 s_numbers), (a_s_frees, eZ 4 s_frees), (a_s_uppers, eJ 4 s_uppers)] := by
  induction N generalizing x2 with
  | zero => exact absurd hN (fun h => itr_0 h)
  | succ N ih =>
    obtain ⟨x, hx, hN⟩ := itr_s hN
    refine bX0_firstWith_L5 C h0 a_s_given a_s_numbers a_s_frees a_s_uppers x1 s_n s_m s_turnsTaken s_settled s_given s_numbers s_frees s_uppers x2 x hx (fun x2' h => ih x2' (by subst h; exact hN)) (fun _ h => he0 () (by subst h; exact (Option.some.inj hN).symm)) (fun y0 h => her y0 (by subst h; exact (Option.some.inj hN).symm))
def fX0_firstWith (p0 : Int32) (s_m : Int32) (s_settled : Int32) (s_numbers : Nat → Int64) : Option ((Int32)) := Option.bind (itr (fX0_firstWith_L5 p0 s_m s_numbers) KF s_settled) (Sum.elim (fun (_ : Unit) => some (-6 : Int32)) (fun rr_7 => some rr_7))
set_option maxHeartbeats 4000000 in
set_option maxRecDepth 100000 in
theorem kX0_firstWith {l : Launch} (h0 : Nat) (a_s_given : Nat) (a_s_numbers : Nat) (a_s_frees : Nat) (a_s_uppers : Nat) (s_n : Int32) (s_m : Int32) (s_turnsTaken : Int32) (s_settled : Int32) (s_given : Nat → Int32) (s_numbers : Nat → Int64) (s_frees : Nat → Int32) (s_uppers : Nat → Int64) (p0 : Int32) (r : Int32) (hm : fX0_firstWith p0 s_m s_settled s_numbers = some r) : CtI l yX0_firstWith wsX0_firstWith ({ frames := 1, cells := 0, slots := 0, locals := 23 } : Room) [.ref h0, .int p0] [(h0, eO 0 [.ref a_s_given, .ref a_s_numbers, .ref a_s_frees, .ref a_s_uppers, .int s_n, .int s_m, .int s_turnsTaken, .int s_settled]), (a_s_given, eI 25 s_given), (a_s_numbers, eJ 25 s_numbers), (a_s_frees, eZ 4 s_frees), (a_s_uppers, eJ 4 s_uppers)] r [(h0, eO 0 [.ref a_s_given, .ref a_s_numbers, .ref a_s_frees, .ref a_s_uppers, .int s_n, .int s_m, .int s_turnsTaken, .int s_settled]), (a_s_given, eI 25 s_given), (a_s_numbers, eJ 25 s_numbers), (a_s_frees, eZ 4 s_frees), (a_s_uppers, eJ 4 s_uppers)] := by
  refine CtI_of (cc := cX0_firstWith) (maxL := 3) (ty := .int) (own := RX0) rfl (by decide) rfl (lv0 := [(0, .ref h0), (1, .int p0)]) rfl (Nat.le_of_ble_eq_true rfl) (fun Γ hL C hR => ?_)
  subst hL
  unfold fX0_firstWith at hm
  refine V_aload_n C 0 dX0_firstWith_0 rfl rfl ?_
  refine V_get C uX0_firstWith_X0 0 7 rfl rfl (by decide) mX0_firstWith_1 rfl dX0_firstWith_1 ?_
  refine V_istore_n C (lv' := [(2, .int s_settled), (0, .ref h0), (1, .int p0)]) dX0_firstWith_4 rfl (by decide) rfl ?_
  obtain ⟨e_5, hE_6, hm⟩ := bnd hm
  refine V_lv [1, 2, 0] rfl ?_
  refine lX0_firstWith_L5 C h0 a_s_given a_s_numbers a_s_frees a_s_uppers p0 s_n s_m s_turnsTaken s_settled s_given s_numbers s_frees s_uppers s_settled KF _ hE_6 ?_ ?_
  · intro _ hq
    subst hq
    -- exit
    dsimp only [Sum.elim_inl, Sum.elim_inr, un2, un3, un4, un5, un6, un7, un8, un9, un10, un11] at hm
    refine V_bipush C (v := (-6 : Int32)) dX0_firstWith_32 (by decide) ?_
    cases hm
    exact hR _ _ rfl dX0_firstWith_34
  · intro rr_7 hq
    subst hq
    dsimp only [Sum.elim_inl, Sum.elim_inr, un2, un3, un4, un5, un6, un7, un8, un9, un10, un11] at hm
    cases hm
    exact hR
theorem hdX0_firstWith : yX0_firstWith.cls = RX0 ∧ yX0_firstWith.cls ≠ "java/lang/invoke/MethodHandle" ∧ yX0_firstWith.cls ≠ "java/lang/invoke/VarHandle" ∧ (parseMethodDescriptor yX0_firstWith.desc).map (fun d => d.parameters.length) = some 1 := by decide +kernel
-- RodBoard$Clearing.exchange(II)V
theorem uX0_exchange_X0 : ∀ w ∈ wsX00, w ∈ wsX0_exchange := fun _ h => List.mem_cons_of_mem _ (List.mem_append_right _ h)
theorem mX0_exchange_1 : Cond.fieldLink RX0 26 "RodBoard$Clearing" "n" "I" ∈ wsX0_exchange := List.mem_of_getElem? (i := 1) rfl
def fX0_exchange_L2b (x1 : Int32) (x2 : Int32) (s_n : Int32) (x3 : Int32) (s_numbers : Nat → Int64) : Option (((Int32) × (Nat → Int64)) ⊕ ((Nat → Int64))) := if s_n < x3 then some (Sum.inr s_numbers) else Option.bind (fX0_cell x1 x3 s_numbers) (fun r_2 => Option.bind (fX0_cell x2 x3 s_numbers) (fun r_4 => Option.bind (fX0_put x1 x3 r_4 s_numbers) (fun w_6 => Option.bind (fX0_put x2 x3 r_2 w_6) (fun w_8 => some (Sum.inl (x3 + (1 : Int32), w_8))))))
def fX0_exchange_L2 (x1 : Int32) (x2 : Int32) (s_n : Int32) : ((Int32) × (Nat → Int64)) → Option (((Int32) × (Nat → Int64)) ⊕ ((Nat → Int64))) := fun e => fX0_exchange_L2b x1 x2 s_n e.1 e.2
set_option maxHeartbeats 4000000 in
set_option maxRecDepth 100000 in
theorem bX0_exchange_L2 {Γ : KT} (C : CX Γ cX0_exchange 6 wsX0_exchange RX0 ({ frames := 1, cells := 0, slots := 0, locals := 25 } : Room)) (h0 : Nat) (a_s_given : Nat) (a_s_numbers : Nat) (a_s_frees : Nat) (a_s_uppers : Nat) (x1 : Int32) (x2 : Int32) (s_n : Int32) (s_m : Int32) (s_turnsTaken : Int32) (s_settled : Int32) (s_given : Nat → Int32) (s_frees : Nat → Int32) (s_uppers : Nat → Int64) (x3 : Int32) (s_numbers : Nat → Int64) (x : ((Int32) × (Nat → Int64)) ⊕ ((Nat → Int64))) (hm : fX0_exchange_L2b x1 x2 s_n x3 s_numbers = some x) (hb : (∀ (x3' : Int32) (s_numbers' : Nat → Int64), x = Sum.inl (x3', s_numbers') → V Γ 6 0 0 2 [(0, .ref h0), (1, .int x1), (2, .int x2), (3, .int x3')] [] [(h0, eO 0 [.ref a_s_given, .ref a_s_numbers, .ref a_s_frees, .ref a_s_uppers, .int s_n, .int s_m, .int s_turnsTaken, .int s_settled]), (a_s_given, eI 25 s_given), (a_s_numbers, eJ 25 s_numbers'), (a_s_frees, eZ 4 s_frees), (a_s_uppers, eJ 4 s_uppers)])) (he0 : (∀ (s_numbers' : Nat → Int64), x = Sum.inr s_numbers' → V Γ 6 0 0 44 [] [] [(h0, eO 0 [.ref a_s_given, .ref a_s_numbers, .ref a_s_frees, .ref a_s_uppers, .int s_n, .int s_m, .int s_turnsTaken, .int s_settled]), (a_s_given, eI 25 s_given), (a_s_numbers, eJ 25 s_numbers'), (a_s_frees, eZ 4 s_frees), (a_s_uppers, eJ 4 s_uppers)])) : V Γ 6 0 0 2 [(0, .ref h0), (1, .int x1), (2, .int x2), (3, .int x3)] [] [(h0, eO 0 [.ref a_s_given, .ref a_s_numbers, .ref a_s_frees, .ref a_s_uppers, .int s_n, .int s_m, .int s_turnsTaken, .int s_settled]), (a_s_given, eI 25 s_given), (a_s_numbers, eJ 25 s_numbers), (a_s_frees, eZ 4 s_frees), (a_s_uppers, eJ 4 s_uppers)] := by
  unfold fX0_exchange_L2b at hm
  refine V_iload_n C 3 dX0_exchange_2 rfl rfl ?_
  refine V_aload_n C 0 dX0_exchange_3 rfl rfl ?_
  refine V_get C uX0_exchange_X0 0 4 rfl rfl (by decide) mX0_exchange_1 rfl dX0_exchange_4 ?_
  refine V_icmp_gt C 44 dX0_exchange_7 (by decide) (fun c_1 => ?_) (fun c_1 => ?_)
  · have hm := ite_t c_1 hm
    refine V_lv [] rfl ?_
    exact he0 s_numbers (Option.some.inj hm).symm
  · have hm := ite_f c_1 hm
    refine V_aload_n C 0 dX0_exchange_10 rfl rfl ?_
    refine V_iload_n C 1 dX0_exchange_11 rfl rfl ?_
    refine V_iload_n C 3 dX0_exchange_12 rfl rfl ?_
    obtain ⟨r_2, hc_3, hm⟩ := bnd hm
    refine V_callVL C (As := [.int x1, .int x3]) (wr := []) (ws2 := [(h0, eO 0 [.ref a_s_given, .ref a_s_numbers, .ref a_s_frees, .ref a_s_uppers, .int s_n, .int s_m, .int s_turnsTaken, .int s_settled]), (a_s_given, eI 25 s_given), (a_s_numbers, eJ 25 s_numbers), (a_s_frees, eZ 4 s_frees), (a_s_uppers, eJ 4 s_uppers)]) (kX0_cell h0 a_s_given a_s_numbers a_s_frees a_s_uppers s_n s_m s_turnsTaken s_settled s_given s_numbers s_frees s_uppers x1 x3 r_2 hc_3) gX0_exchange_X0_cell rfl ⟨rfl, rfl⟩ hdX0_cell ⟨Nat.le_of_ble_eq_true rfl, Nat.le_of_ble_eq_true rfl⟩ ⟨Nat.zero_le _, Nat.zero_le _⟩ 0 rfl rfl [0, 1, 2, 3, 4] [] [0, 1, 2, 3, 4] rfl rfl ⟨rfl, rfl, rfl⟩ (by decide) rfl rfl (Nat.le_of_ble_eq_true rfl) dX0_exchange_13 ?_
    refine V_lstore C (lv' := [(4, .long r_2), (0, .ref h0), (1, .int x1), (2, .int x2), (3, .int x3)]) dX0_exchange_16 (by decide) rfl ?_
    refine V_aload_n C 1 dX0_exchange_18 rfl rfl ?_
    refine V_iload_n C 2 dX0_exchange_19 rfl rfl ?_
    refine V_iload_n C 4 dX0_exchange_20 rfl rfl ?_
    refine V_aload_n C 1 dX0_exchange_21 rfl rfl ?_
    refine V_iload_n C 3 dX0_exchange_22 rfl rfl ?_
    refine V_iload_n C 4 dX0_exchange_23 rfl rfl ?_
    obtain ⟨r_4, hc_5, hm⟩ := bnd hm
    refine V_callVL C (As := [.int x2, .int x3]) (wr := []) (ws2 := [(h0, eO 0 [.ref a_s_given, .ref a_s_numbers, .ref a_s_frees, .ref a_s_uppers, .int s_n, .int s_m, .int s_turnsTaken, .int s_settled]), (a_s_given, eI 25 s_given), (a_s_numbers, eJ 25 s_numbers), (a_s_frees, eZ 4 s_frees), (a_s_uppers, eJ 4 s_uppers)]) (kX0_cell h0 a_s_given a_s_numbers a_s_frees a_s_uppers s_n s_m s_turnsTaken s_settled s_given s_numbers s_frees s_uppers x2 x3 r_4 hc_5) gX0_exchange_X0_cell rfl ⟨rfl, rfl⟩ hdX0_cell ⟨Nat.le_of_ble_eq_true rfl, Nat.le_of_ble_eq_true rfl⟩ ⟨Nat.zero_le _, Nat.zero_le _⟩ 0 rfl rfl [0, 1, 2, 3, 4] [] [0, 1, 2, 3, 4] rfl rfl ⟨rfl, rfl, rfl⟩ (by decide) rfl rfl (Nat.le_of_ble_eq_true rfl) dX0_exchange_24 ?_
    obtain ⟨w_6, hc_7, hm⟩ := bnd hm
    refine V_callVV C (As := [.int x1, .int x3, .long r_4]) (wr := []) (ws2 := [(h0, eO 0 [.ref a_s_given, .ref a_s_numbers, .ref a_s_frees, .ref a_s_uppers, .int s_n, .int s_m, .int s_turnsTaken, .int s_settled]), (a_s_given, eI 25 s_given), (a_s_numbers, eJ 25 w_6), (a_s_frees, eZ 4 s_frees), (a_s_uppers, eJ 4 s_uppers)]) (kX0_put h0 a_s_given a_s_numbers a_s_frees a_s_uppers s_n s_m s_turnsTaken s_settled s_given s_numbers s_frees s_uppers x1 x3 r_4 w_6 hc_7) gX0_exchange_X0_put rfl ⟨rfl, rfl⟩ hdX0_put ⟨Nat.le_of_ble_eq_true rfl, Nat.le_of_ble_eq_true rfl⟩ ⟨Nat.zero_le _, Nat.zero_le _⟩ 0 rfl rfl [0, 1, 2, 3, 4] [] [0, 1, 2, 3, 4] rfl rfl ⟨rfl, rfl, rfl⟩ (by decide) rfl rfl (Nat.le_of_ble_eq_true rfl) dX0_exchange_27 ?_
    refine V_aload_n C 1 dX0_exchange_30 rfl rfl ?_
    refine V_iload_n C 3 dX0_exchange_31 rfl rfl ?_
    refine V_iload_n C 4 dX0_exchange_32 rfl rfl ?_
    refine V_lload C 0 dX0_exchange_33 rfl ?_
    obtain ⟨w_8, hc_9, hm⟩ := bnd hm
    refine V_callVV C (As := [.int x2, .int x3, .long r_2]) (wr := []) (ws2 := [(h0, eO 0 [.ref a_s_given, .ref a_s_numbers, .ref a_s_frees, .ref a_s_uppers, .int s_n, .int s_m, .int s_turnsTaken, .int s_settled]), (a_s_given, eI 25 s_given), (a_s_numbers, eJ 25 w_8), (a_s_frees, eZ 4 s_frees), (a_s_uppers, eJ 4 s_uppers)]) (kX0_put h0 a_s_given a_s_numbers a_s_frees a_s_uppers s_n s_m s_turnsTaken s_settled s_given w_6 s_frees s_uppers x2 x3 r_2 w_8 hc_9) gX0_exchange_X0_put rfl ⟨rfl, rfl⟩ hdX0_put ⟨Nat.le_of_ble_eq_true rfl, Nat.le_of_ble_eq_true rfl⟩ ⟨Nat.zero_le _, Nat.zero_le _⟩ 0 rfl rfl [0, 1, 2, 3, 4] [] [0, 1, 2, 3, 4] rfl rfl ⟨rfl, rfl, rfl⟩ (by decide) rfl rfl (Nat.le_of_ble_eq_true rfl) dX0_exchange_35 ?_
    refine V_iinc C 4 (v := x3 + (1 : Int32)) (lv' := [(3, .int (x3 + (1 : Int32))), (4, .long r_2), (0, .ref h0), (1, .int x1), (2, .int x2)]) dX0_exchange_38 rfl rfl (by decide) rfl ?_
    refine V_goto C 2 dX0_exchange_41 (by decide) ?_
    refine V_lv [2, 3, 4, 0] rfl ?_
    exact hb (x3 + (1 : Int32)) w_8 (Option.some.inj hm).symm
theorem lX0_exchange_L2 {Γ : KT} (C : CX Γ cX0_exchange 6 wsX0_exchange RX0 ({ frames := 1, cells := 0, slots := 0, locals := 25 } : Room)) (h0 : Nat) (a_s_given : Nat) (a_s_numbers : Nat) (a_s_frees : Nat) (a_s_uppers : Nat) (x1 : Int32) (x2 : Int32) (s_n : Int32) (s_m : Int32) (s_turnsTaken : Int32) (s_settled : Int32) (s_given : Nat → Int32) (s_frees : Nat → Int32) (s_uppers : Nat → Int64) (x3 : Int32) (s_numbers : Nat → Int64) (N : Nat) (e : (Nat → Int64)) (hN : itr (fX0_exchange_L2 x1 x2 s_n) N (x3, s_numbers) = some e) (he0 : (∀ (s_numbers' : Nat → Int64), e = s_numbers' → V Γ 6 0 0 44 [] [] [(h0, eO 0 [.ref a_s_given, .ref a_s_numbers, .ref a_s_frees, .ref a_s_uppers, .int s_n, .int s_m, .int s_turnsTaken, .int s_settled]), (a_s_given, eI 25 s_given), (a_s_numbers, eJ 25 s_numbers'), (a_s_frees, eZ 4 s_frees), (a_s_uppers, eJ 4 s_uppers)])) : V Γ 6 0 0 2 [(0, .ref h0), (1, .int x1), (2, .int x2), (3, .int x3)] [] [(h0, eO 0 [.ref a_s_given, .ref a_s_numbers, .ref a_s_frees, .ref a_s_uppers, .int s_n, .int s_m, .int s_turnsTaken, .int s_settled]), (a_s_given, eI 25 s_given), (a_s_numbers, eJ 25 s_numbers), (a_s_frees, eZ 4 s_frees), (a_s_uppers, eJ 4 s_uppers)] := by
  induction N generalizing x3 s_numbers with
  | zero => exact absurd hN (fun h => itr_0 h)
  | succ N ih =>
    obtain ⟨x, hx, hN⟩ := itr_s hN
    refine bX0_exchange_L2 C h0 a_s_given a_s_numbers a_s_frees a_s_uppers x1 x2 s_n s_m s_turnsTaken s_settled s_given s_frees s_uppers x3 s_numbers x hx (fun x3' s_numbers' h => ih x3' s_numbers' (by subst h; exact hN)) (fun y0 h => he0 y0 (by subst h; exact (Option.some.inj hN).symm))
def fX0_exchange (p0 : Int32) (p1 : Int32) (s_n : Int32) (s_numbers : Nat → Int64) : Option ((Nat → Int64)) := Option.bind (itr (fX0_exchange_L2 p0 p1 s_n) KF ((0 : Int32), s_numbers)) (fun u_12 => some u_12)
set_option maxHeartbeats 4000000 in
set_option maxRecDepth 100000 in
theorem kX0_exchange {l : Launch} (h0 : Nat) (a_s_given : Nat) (a_s_numbers : Nat) (a_s_frees : Nat) (a_s_uppers : Nat) (s_n : Int32) (s_m : Int32) (s_turnsTaken : Int32) (s_settled : Int32) (s_given : Nat → Int32) (s_numbers : Nat → Int64) (s_frees : Nat → Int32) (s_uppers : Nat → Int64) (p0 : Int32) (p1 : Int32) (o_s_numbers : Nat → Int64) (hm : fX0_exchange p0 p1 s_n s_numbers = some o_s_numbers) : CtV l yX0_exchange wsX0_exchange ({ frames := 1, cells := 0, slots := 0, locals := 25 } : Room) [.ref h0, .int p0, .int p1] [(h0, eO 0 [.ref a_s_given, .ref a_s_numbers, .ref a_s_frees, .ref a_s_uppers, .int s_n, .int s_m, .int s_turnsTaken, .int s_settled]), (a_s_given, eI 25 s_given), (a_s_numbers, eJ 25 s_numbers), (a_s_frees, eZ 4 s_frees), (a_s_uppers, eJ 4 s_uppers)] [(h0, eO 0 [.ref a_s_given, .ref a_s_numbers, .ref a_s_frees, .ref a_s_uppers, .int s_n, .int s_m, .int s_turnsTaken, .int s_settled]), (a_s_given, eI 25 s_given), (a_s_numbers, eJ 25 o_s_numbers), (a_s_frees, eZ 4 s_frees), (a_s_uppers, eJ 4 s_uppers)] := by
  refine CtV_of (cc := cX0_exchange) (maxL := 6) (own := RX0) rfl (by decide) rfl (lv0 := [(0, .ref h0), (1, .int p0), (2, .int p1)]) rfl (Nat.le_of_ble_eq_true rfl) (fun Γ hL C hR => ?_)
  subst hL
  unfold fX0_exchange at hm
  refine V_iconst C (v := (0 : Int32)) dX0_exchange_0 (by decide) ?_
  refine V_istore_n C (lv' := [(3, .int (0 : Int32)), (0, .ref h0), (1, .int p0), (2, .int p1)]) dX0_exchange_1 rfl (by decide) rfl ?_
  obtain ⟨u_12, hE_11, hm⟩ := bnd hm
  refine V_lv [1, 2, 3, 0] rfl ?_
  refine lX0_exchange_L2 C h0 a_s_given a_s_numbers a_s_frees a_s_uppers p0 p1 s_n s_m s_turnsTaken s_settled s_given s_frees s_uppers (0 : Int32) s_numbers KF _ hE_11 ?_
  intro q_13 hq
  cases hq
  cases hm
  exact hR _ _ dX0_exchange_44
theorem hdX0_exchange : yX0_exchange.cls = RX0 ∧ yX0_exchange.cls ≠ "java/lang/invoke/MethodHandle" ∧ yX0_exchange.cls ≠ "java/lang/invoke/VarHandle" ∧ (parseMethodDescriptor yX0_exchange.desc).map (fun d => d.parameters.length) = some 2 := by decide +kernel
-- RodBoard$Clearing.turn(II)V
theorem uX0_turn_X0 : ∀ w ∈ wsX00, w ∈ wsX0_turn := fun _ h => List.mem_cons_of_mem _ (List.mem_append_right _ h)
theorem mX0_turn_1 : Cond.fieldLink RX0 36 "RodBoard$Clearing" "settled" "I" ∈ wsX0_turn := List.mem_of_getElem? (i := 1) rfl
theorem mX0_turn_2 : Cond.fieldLink RX0 26 "RodBoard$Clearing" "n" "I" ∈ wsX0_turn := List.mem_of_getElem? (i := 2) rfl
theorem mX0_turn_3 : Cond.fieldLink RX0 33 "RodBoard$Clearing" "turnsTaken" "I" ∈ wsX0_turn := List.mem_of_getElem? (i := 3) rfl
def fX0_turn_L24b (x1 : Int32) (x3 : Int64) (x5 : Int64) (s_n : Int32) (s_settled : Int32) (x7 : Int64) (x9 : Int32) (s_numbers : Nat → Int64) : Option (((Int64) × (Int32) × (Nat → Int64)) ⊕ ((Int64) × (Nat → Int64))) := if s_n < x9 then some (Sum.inr (x7, s_numbers)) else Option.bind (fX0_cell x1 x9 s_numbers) (fun r_6 => Option.bind (fX0_cell s_settled x9 s_numbers) (fun r_8 => Option.bind (fX0_put x1 x9 ((r_6 * x5) - (r_8 * x3)) s_numbers) (fun w_10 => Option.bind (fX0_cell x1 x9 w_10) (fun r_12 => Option.bind (fX5_greatestPart x7 r_12) (fun r_14 => some (Sum.inl (r_14, x9 + (1 : Int32), w_10)))))))
def fX0_turn_L24 (x1 : Int32) (x3 : Int64) (x5 : Int64) (s_n : Int32) (s_settled : Int32) : ((Int64) × (Int32) × (Nat → Int64)) → Option (((Int64) × (Int32) × (Nat → Int64)) ⊕ ((Int64) × (Nat → Int64))) := fun e => fX0_turn_L24b x1 x3 x5 s_n s_settled e.1 e.2.1 e.2.2
set_option maxHeartbeats 4000000 in
set_option maxRecDepth 100000 in
theorem bX0_turn_L24 {Γ : KT} (C : CX Γ cX0_turn 10 wsX0_turn RX0 ({ frames := 2, cells := 0, slots := 0, locals := 43 } : Room)) (h0 : Nat) (a_s_given : Nat) (a_s_numbers : Nat) (a_s_frees : Nat) (a_s_uppers : Nat) (x1 : Int32) (x3 : Int64) (x5 : Int64) (s_n : Int32) (s_m : Int32) (s_turnsTaken : Int32) (s_settled : Int32) (s_given : Nat → Int32) (s_frees : Nat → Int32) (s_uppers : Nat → Int64) (x7 : Int64) (x9 : Int32) (s_numbers : Nat → Int64) (x : ((Int64) × (Int32) × (Nat → Int64)) ⊕ ((Int64) × (Nat → Int64))) (hm : fX0_turn_L24b x1 x3 x5 s_n s_settled x7 x9 s_numbers = some x) (hb : (∀ (x7' : Int64) (x9' : Int32) (s_numbers' : Nat → Int64), x = Sum.inl (x7', x9', s_numbers') → V Γ 10 0 0 24 [(0, .ref h0), (1, .int x1), (3, .long x3), (5, .long x5), (7, .long x7'), (9, .int x9')] [] [(h0, eO 0 [.ref a_s_given, .ref a_s_numbers, .ref a_s_frees, .ref a_s_uppers, .int s_n, .int s_m, .int s_turnsTaken, .int s_settled]), (a_s_given, eI 25 s_given), (a_s_numbers, eJ 25 s_numbers'), (a_s_frees, eZ 4 s_frees), (a_s_uppers, eJ 4 s_uppers)])) (he0 : (∀ (x7' : Int64) (s_numbers' : Nat → Int64), x = Sum.inr (x7', s_numbers') → V Γ 10 0 0 83 [(0, .ref h0), (1, .int x1), (7, .long x7')] [] [(h0, eO 0 [.ref a_s_given, .ref a_s_numbers, .ref a_s_frees, .ref a_s_uppers, .int s_n, .int s_m, .int s_turnsTaken, .int s_settled]), (a_s_given, eI 25 s_given), (a_s_numbers, eJ 25 s_numbers'), (a_s_frees, eZ 4 s_frees), (a_s_uppers, eJ 4 s_uppers)])) : V Γ 10 0 0 24 [(0, .ref h0), (1, .int x1), (3, .long x3), (5, .long x5), (7, .long x7), (9, .int x9)] [] [(h0, eO 0 [.ref a_s_given, .ref a_s_numbers, .ref a_s_frees, .ref a_s_uppers, .int s_n, .int s_m, .int s_turnsTaken, .int s_settled]), (a_s_given, eI 25 s_given), (a_s_numbers, eJ 25 s_numbers), (a_s_frees, eZ 4 s_frees), (a_s_uppers, eJ 4 s_uppers)] := by
  unfold fX0_turn_L24b at hm
  refine V_iload C 5 dX0_turn_24 rfl ?_
  refine V_aload_n C 0 dX0_turn_26 rfl rfl ?_
  refine V_get C uX0_turn_X0 0 4 rfl rfl (by decide) mX0_turn_2 rfl dX0_turn_27 ?_
  refine V_icmp_gt C 83 dX0_turn_30 (by decide) (fun c_5 => ?_) (fun c_5 => ?_)
  · have hm := ite_t c_5 hm
    refine V_lv [0, 1, 4] rfl ?_
    exact he0 x7 s_numbers (Option.some.inj hm).symm
  · have hm := ite_f c_5 hm
    refine V_aload_n C 0 dX0_turn_33 rfl rfl ?_
    refine V_iload_n C 1 dX0_turn_34 rfl rfl ?_
    refine V_iload C 5 dX0_turn_35 rfl ?_
    refine V_aload_n C 0 dX0_turn_37 rfl rfl ?_
    refine V_iload_n C 1 dX0_turn_38 rfl rfl ?_
    refine V_iload C 5 dX0_turn_39 rfl ?_
    obtain ⟨r_6, hc_7, hm⟩ := bnd hm
    refine V_callVL C (As := [.int x1, .int x9]) (wr := []) (ws2 := [(h0, eO 0 [.ref a_s_given, .ref a_s_numbers, .ref a_s_frees, .ref a_s_uppers, .int s_n, .int s_m, .int s_turnsTaken, .int s_settled]), (a_s_given, eI 25 s_given), (a_s_numbers, eJ 25 s_numbers), (a_s_frees, eZ 4 s_frees), (a_s_uppers, eJ 4 s_uppers)]) (kX0_cell h0 a_s_given a_s_numbers a_s_frees a_s_uppers s_n s_m s_turnsTaken s_settled s_given s_numbers s_frees s_uppers x1 x9 r_6 hc_7) gX0_turn_X0_cell rfl ⟨rfl, rfl⟩ hdX0_cell ⟨Nat.le_of_ble_eq_true rfl, Nat.le_of_ble_eq_true rfl⟩ ⟨Nat.zero_le _, Nat.zero_le _⟩ 0 rfl rfl [0, 1, 2, 3, 4] [] [0, 1, 2, 3, 4] rfl rfl ⟨rfl, rfl, rfl⟩ (by decide) rfl rfl (Nat.le_of_ble_eq_true rfl) dX0_turn_41 ?_
    refine V_lload C 3 dX0_turn_44 rfl ?_
    refine V_lmul C dX0_turn_46 ?_
    refine V_aload_n C 0 dX0_turn_47 rfl rfl ?_
    refine V_aload_n C 0 dX0_turn_48 rfl rfl ?_
    refine V_get C uX0_turn_X0 0 7 rfl rfl (by decide) mX0_turn_1 rfl dX0_turn_49 ?_
    refine V_iload C 5 dX0_turn_52 rfl ?_
    obtain ⟨r_8, hc_9, hm⟩ := bnd hm
    refine V_callVL C (As := [.int s_settled, .int x9]) (wr := []) (ws2 := [(h0, eO 0 [.ref a_s_given, .ref a_s_numbers, .ref a_s_frees, .ref a_s_uppers, .int s_n, .int s_m, .int s_turnsTaken, .int s_settled]), (a_s_given, eI 25 s_given), (a_s_numbers, eJ 25 s_numbers), (a_s_frees, eZ 4 s_frees), (a_s_uppers, eJ 4 s_uppers)]) (kX0_cell h0 a_s_given a_s_numbers a_s_frees a_s_uppers s_n s_m s_turnsTaken s_settled s_given s_numbers s_frees s_uppers s_settled x9 r_8 hc_9) gX0_turn_X0_cell rfl ⟨rfl, rfl⟩ hdX0_cell ⟨Nat.le_of_ble_eq_true rfl, Nat.le_of_ble_eq_true rfl⟩ ⟨Nat.zero_le _, Nat.zero_le _⟩ 0 rfl rfl [0, 1, 2, 3, 4] [] [0, 1, 2, 3, 4] rfl rfl ⟨rfl, rfl, rfl⟩ (by decide) rfl rfl (Nat.le_of_ble_eq_true rfl) dX0_turn_54 ?_
    refine V_lload_n C 2 dX0_turn_57 rfl rfl ?_
    refine V_lmul C dX0_turn_58 ?_
    refine V_lsub C dX0_turn_59 ?_
    obtain ⟨w_10, hc_11, hm⟩ := bnd hm
    refine V_callVV C (As := [.int x1, .int x9, .long ((r_6 * x5) - (r_8 * x3))]) (wr := []) (ws2 := [(h0, eO 0 [.ref a_s_given, .ref a_s_numbers, .ref a_s_frees, .ref a_s_uppers, .int s_n, .int s_m, .int s_turnsTaken, .int s_settled]), (a_s_given, eI 25 s_given), (a_s_numbers, eJ 25 w_10), (a_s_frees, eZ 4 s_frees), (a_s_uppers, eJ 4 s_uppers)]) (kX0_put h0 a_s_given a_s_numbers a_s_frees a_s_uppers s_n s_m s_turnsTaken s_settled s_given s_numbers s_frees s_uppers x1 x9 ((r_6 * x5) - (r_8 * x3)) w_10 hc_11) gX0_turn_X0_put rfl ⟨rfl, rfl⟩ hdX0_put ⟨Nat.le_of_ble_eq_true rfl, Nat.le_of_ble_eq_true rfl⟩ ⟨Nat.zero_le _, Nat.zero_le _⟩ 0 rfl rfl [0, 1, 2, 3, 4] [] [0, 1, 2, 3, 4] rfl rfl ⟨rfl, rfl, rfl⟩ (by decide) rfl rfl (Nat.le_of_ble_eq_true rfl) dX0_turn_60 ?_
    refine V_lload C 4 dX0_turn_63 rfl ?_
    refine V_aload_n C 0 dX0_turn_65 rfl rfl ?_
    refine V_iload_n C 1 dX0_turn_66 rfl rfl ?_
    refine V_iload C 5 dX0_turn_67 rfl ?_
    obtain ⟨r_12, hc_13, hm⟩ := bnd hm
    refine V_callVL C (As := [.int x1, .int x9]) (wr := []) (ws2 := [(h0, eO 0 [.ref a_s_given, .ref a_s_numbers, .ref a_s_frees, .ref a_s_uppers, .int s_n, .int s_m, .int s_turnsTaken, .int s_settled]), (a_s_given, eI 25 s_given), (a_s_numbers, eJ 25 w_10), (a_s_frees, eZ 4 s_frees), (a_s_uppers, eJ 4 s_uppers)]) (kX0_cell h0 a_s_given a_s_numbers a_s_frees a_s_uppers s_n s_m s_turnsTaken s_settled s_given w_10 s_frees s_uppers x1 x9 r_12 hc_13) gX0_turn_X0_cell rfl ⟨rfl, rfl⟩ hdX0_cell ⟨Nat.le_of_ble_eq_true rfl, Nat.le_of_ble_eq_true rfl⟩ ⟨Nat.zero_le _, Nat.zero_le _⟩ 0 rfl rfl [0, 1, 2, 3, 4] [] [0, 1, 2, 3, 4] rfl rfl ⟨rfl, rfl, rfl⟩ (by decide) rfl rfl (Nat.le_of_ble_eq_true rfl) dX0_turn_69 ?_
    obtain ⟨r_14, hc_15, hm⟩ := bnd hm
    refine V_callSL C (As := [.long x7, .long r_12]) (wr := [(h0, eO 0 [.ref a_s_given, .ref a_s_numbers, .ref a_s_frees, .ref a_s_uppers, .int s_n, .int s_m, .int s_turnsTaken, .int s_settled]), (a_s_given, eI 25 s_given), (a_s_numbers, eJ 25 w_10), (a_s_frees, eZ 4 s_frees), (a_s_uppers, eJ 4 s_uppers)]) (ws2 := [(h0, eO 0 [.ref a_s_given, .ref a_s_numbers, .ref a_s_frees, .ref a_s_uppers, .int s_n, .int s_m, .int s_turnsTaken, .int s_settled]), (a_s_given, eI 25 s_given), (a_s_numbers, eJ 25 w_10), (a_s_frees, eZ 4 s_frees), (a_s_uppers, eJ 4 s_uppers)]) (kX5_greatestPart x7 r_12 r_14 hc_15) gX0_turn_X5_greatestPart rfl ⟨rfl, rfl⟩ hdX5_greatestPart ⟨Nat.le_of_ble_eq_true rfl, Nat.le_of_ble_eq_true rfl⟩ ⟨Nat.zero_le _, Nat.zero_le _⟩ [] [0, 1, 2, 3, 4] [0, 1, 2, 3, 4] rfl rfl ⟨rfl, rfl, rfl⟩ (by decide) rfl rfl (Nat.le_of_ble_eq_true rfl) dX0_turn_72 ?_
    refine V_lstore C (lv' := [(7, .long r_14), (0, .ref h0), (1, .int x1), (3, .long x3), (5, .long x5), (9, .int x9)]) dX0_turn_75 (by decide) rfl ?_
    refine V_iinc C 5 (v := x9 + (1 : Int32)) (lv' := [(9, .int (x9 + (1 : Int32))), (7, .long r_14), (0, .ref h0), (1, .int x1), (3, .long x3), (5, .long x5)]) dX0_turn_77 rfl rfl (by decide) rfl ?_
    refine V_goto C 24 dX0_turn_80 (by decide) ?_
    refine V_lv [2, 3, 4, 5, 1, 0] rfl ?_
    exact hb r_14 (x9 + (1 : Int32)) w_10 (Option.some.inj hm).symm
theorem lX0_turn_L24 {Γ : KT} (C : CX Γ cX0_turn 10 wsX0_turn RX0 ({ frames := 2, cells := 0, slots := 0, locals := 43 } : Room)) (h0 : Nat) (a_s_given : Nat) (a_s_numbers : Nat) (a_s_frees : Nat) (a_s_uppers : Nat) (x1 : Int32) (x3 : Int64) (x5 : Int64) (s_n : Int32) (s_m : Int32) (s_turnsTaken : Int32) (s_settled : Int32) (s_given : Nat → Int32) (s_frees : Nat → Int32) (s_uppers : Nat → Int64) (x7 : Int64) (x9 : Int32) (s_numbers : Nat → Int64) (N : Nat) (e : (Int64) × (Nat → Int64)) (hN : itr (fX0_turn_L24 x1 x3 x5 s_n s_settled) N (x7, x9, s_numbers) = some e) (he0 : (∀ (x7' : Int64) (s_numbers' : Nat → Int64), e = (x7', s_numbers') → V Γ 10 0 0 83 [(0, .ref h0), (1, .int x1), (7, .long x7')] [] [(h0, eO 0 [.ref a_s_given, .ref a_s_numbers, .ref a_s_frees, .ref a_s_uppers, .int s_n, .int s_m, .int s_turnsTaken, .int s_settled]), (a_s_given, eI 25 s_given), (a_s_numbers, eJ 25 s_numbers'), (a_s_frees, eZ 4 s_frees), (a_s_uppers, eJ 4 s_uppers)])) : V Γ 10 0 0 24 [(0, .ref h0), (1, .int x1), (3, .long x3), (5, .long x5), (7, .long x7), (9, .int x9)] [] [(h0, eO 0 [.ref a_s_given, .ref a_s_numbers, .ref a_s_frees, .ref a_s_uppers, .int s_n, .int s_m, .int s_turnsTaken, .int s_settled]), (a_s_given, eI 25 s_given), (a_s_numbers, eJ 25 s_numbers), (a_s_frees, eZ 4 s_frees), (a_s_uppers, eJ 4 s_uppers)] := by
  induction N generalizing x7 x9 s_numbers with
  | zero => exact absurd hN (fun h => itr_0 h)
  | succ N ih =>
    obtain ⟨x, hx, hN⟩ := itr_s hN
    refine bX0_turn_L24 C h0 a_s_given a_s_numbers a_s_frees a_s_uppers x1 x3 x5 s_n s_m s_turnsTaken s_settled s_given s_frees s_uppers x7 x9 s_numbers x hx (fun x7' x9' s_numbers' h => ih x7' x9' s_numbers' (by subst h; exact hN)) (fun y0 y1 h => he0 y0 y1 (by subst h; exact (Option.some.inj hN).symm))
def fX0_turn_L86b (x1 : Int32) (x7 : Int64) (s_n : Int32) (x9 : Int32) (s_numbers : Nat → Int64) : Option (((Int32) × (Nat → Int64)) ⊕ ((Nat → Int64))) := if s_n < x9 then some (Sum.inr s_numbers) else if x7 = (0 : Int64) then some (Sum.inl (x9 + (1 : Int32), s_numbers)) else Option.bind (fX0_cell x1 x9 s_numbers) (fun r_22 => Option.bind (dvJ r_22 x7) (fun v_24 => Option.bind (fX0_put x1 x9 v_24 s_numbers) (fun w_25 => some (Sum.inl (x9 + (1 : Int32), w_25)))))
def fX0_turn_L86 (x1 : Int32) (x7 : Int64) (s_n : Int32) : ((Int32) × (Nat → Int64)) → Option (((Int32) × (Nat → Int64)) ⊕ ((Nat → Int64))) := fun e => fX0_turn_L86b x1 x7 s_n e.1 e.2
set_option maxHeartbeats 4000000 in
set_option maxRecDepth 100000 in
theorem bX0_turn_L86 {Γ : KT} (C : CX Γ cX0_turn 10 wsX0_turn RX0 ({ frames := 2, cells := 0, slots := 0, locals := 43 } : Room)) (h0 : Nat) (a_s_given : Nat) (a_s_numbers : Nat) (a_s_frees : Nat) (a_s_uppers : Nat) (x1 : Int32) (x7 : Int64) (s_n : Int32) (s_m : Int32) (s_turnsTaken : Int32) (s_settled : Int32) (s_given : Nat → Int32) (s_frees : Nat → Int32) (s_uppers : Nat → Int64) (x9 : Int32) (s_numbers : Nat → Int64) (x : ((Int32) × (Nat → Int64)) ⊕ ((Nat → Int64))) (hm : fX0_turn_L86b x1 x7 s_n x9 s_numbers = some x) (hb : (∀ (x9' : Int32) (s_numbers' : Nat → Int64), x = Sum.inl (x9', s_numbers') → V Γ 10 0 0 86 [(0, .ref h0), (1, .int x1), (7, .long x7), (9, .int x9')] [] [(h0, eO 0 [.ref a_s_given, .ref a_s_numbers, .ref a_s_frees, .ref a_s_uppers, .int s_n, .int s_m, .int s_turnsTaken, .int s_settled]), (a_s_given, eI 25 s_given), (a_s_numbers, eJ 25 s_numbers'), (a_s_frees, eZ 4 s_frees), (a_s_uppers, eJ 4 s_uppers)])) (he0 : (∀ (s_numbers' : Nat → Int64), x = Sum.inr s_numbers' → V Γ 10 0 0 125 [(0, .ref h0)] [] [(h0, eO 0 [.ref a_s_given, .ref a_s_numbers, .ref a_s_frees, .ref a_s_uppers, .int s_n, .int s_m, .int s_turnsTaken, .int s_settled]), (a_s_given, eI 25 s_given), (a_s_numbers, eJ 25 s_numbers'), (a_s_frees, eZ 4 s_frees), (a_s_uppers, eJ 4 s_uppers)])) : V Γ 10 0 0 86 [(0, .ref h0), (1, .int x1), (7, .long x7), (9, .int x9)] [] [(h0, eO 0 [.ref a_s_given, .ref a_s_numbers, .ref a_s_frees, .ref a_s_uppers, .int s_n, .int s_m, .int s_turnsTaken, .int s_settled]), (a_s_given, eI 25 s_given), (a_s_numbers, eJ 25 s_numbers), (a_s_frees, eZ 4 s_frees), (a_s_uppers, eJ 4 s_uppers)] := by
  unfold fX0_turn_L86b at hm
  refine V_iload C 3 dX0_turn_86 rfl ?_
  refine V_aload_n C 0 dX0_turn_88 rfl rfl ?_
  refine V_get C uX0_turn_X0 0 4 rfl rfl (by decide) mX0_turn_2 rfl dX0_turn_89 ?_
  refine V_icmp_gt C 125 dX0_turn_92 (by decide) (fun c_20 => ?_) (fun c_20 => ?_)
  · have hm := ite_t c_20 hm
    refine V_lv [0] rfl ?_
    exact he0 s_numbers (Option.some.inj hm).symm
  · have hm := ite_f c_20 hm
    refine V_lload C 2 dX0_turn_95 rfl ?_
    refine V_lconst C (v := (0 : Int64)) dX0_turn_97 (by decide) ?_
    refine V_lcmp_eq C 119 dX0_turn_98 dX0_turn_99 (by decide) (fun c_21 => ?_) (fun c_21 => ?_)
    · have hm := ite_t c_21 hm
      refine V_iinc C 3 (v := x9 + (1 : Int32)) (lv' := [(9, .int (x9 + (1 : Int32))), (0, .ref h0), (1, .int x1), (7, .long x7)]) dX0_turn_119 rfl rfl (by decide) rfl ?_
      refine V_goto C 86 dX0_turn_122 (by decide) ?_
      refine V_lv [1, 2, 3, 0] rfl ?_
      exact hb (x9 + (1 : Int32)) s_numbers (Option.some.inj hm).symm
    · have hm := ite_f c_21 hm
      refine V_aload_n C 0 dX0_turn_102 rfl rfl ?_
      refine V_iload_n C 1 dX0_turn_103 rfl rfl ?_
      refine V_iload C 3 dX0_turn_104 rfl ?_
      refine V_aload_n C 0 dX0_turn_106 rfl rfl ?_
      refine V_iload_n C 1 dX0_turn_107 rfl rfl ?_
      refine V_iload C 3 dX0_turn_108 rfl ?_
      obtain ⟨r_22, hc_23, hm⟩ := bnd hm
      refine V_callVL C (As := [.int x1, .int x9]) (wr := []) (ws2 := [(h0, eO 0 [.ref a_s_given, .ref a_s_numbers, .ref a_s_frees, .ref a_s_uppers, .int s_n, .int s_m, .int s_turnsTaken, .int s_settled]), (a_s_given, eI 25 s_given), (a_s_numbers, eJ 25 s_numbers), (a_s_frees, eZ 4 s_frees), (a_s_uppers, eJ 4 s_uppers)]) (kX0_cell h0 a_s_given a_s_numbers a_s_frees a_s_uppers s_n s_m s_turnsTaken s_settled s_given s_numbers s_frees s_uppers x1 x9 r_22 hc_23) gX0_turn_X0_cell rfl ⟨rfl, rfl⟩ hdX0_cell ⟨Nat.le_of_ble_eq_true rfl, Nat.le_of_ble_eq_true rfl⟩ ⟨Nat.zero_le _, Nat.zero_le _⟩ 0 rfl rfl [0, 1, 2, 3, 4] [] [0, 1, 2, 3, 4] rfl rfl ⟨rfl, rfl, rfl⟩ (by decide) rfl rfl (Nat.le_of_ble_eq_true rfl) dX0_turn_110 ?_
      refine V_lload C 2 dX0_turn_113 rfl ?_
      obtain ⟨v_24, hv_24, hm⟩ := bnd hm
      refine V_ldiv C hv_24 dX0_turn_115 ?_
      obtain ⟨w_25, hc_26, hm⟩ := bnd hm
      refine V_callVV C (As := [.int x1, .int x9, .long v_24]) (wr := []) (ws2 := [(h0, eO 0 [.ref a_s_given, .ref a_s_numbers, .ref a_s_frees, .ref a_s_uppers, .int s_n, .int s_m, .int s_turnsTaken, .int s_settled]), (a_s_given, eI 25 s_given), (a_s_numbers, eJ 25 w_25), (a_s_frees, eZ 4 s_frees), (a_s_uppers, eJ 4 s_uppers)]) (kX0_put h0 a_s_given a_s_numbers a_s_frees a_s_uppers s_n s_m s_turnsTaken s_settled s_given s_numbers s_frees s_uppers x1 x9 v_24 w_25 hc_26) gX0_turn_X0_put rfl ⟨rfl, rfl⟩ hdX0_put ⟨Nat.le_of_ble_eq_true rfl, Nat.le_of_ble_eq_true rfl⟩ ⟨Nat.zero_le _, Nat.zero_le _⟩ 0 rfl rfl [0, 1, 2, 3, 4] [] [0, 1, 2, 3, 4] rfl rfl ⟨rfl, rfl, rfl⟩ (by decide) rfl rfl (Nat.le_of_ble_eq_true rfl) dX0_turn_116 ?_
      refine V_iinc C 3 (v := x9 + (1 : Int32)) (lv' := [(9, .int (x9 + (1 : Int32))), (0, .ref h0), (1, .int x1), (7, .long x7)]) dX0_turn_119 rfl rfl (by decide) rfl ?_
      refine V_goto C 86 dX0_turn_122 (by decide) ?_
      refine V_lv [1, 2, 3, 0] rfl ?_
      exact hb (x9 + (1 : Int32)) w_25 (Option.some.inj hm).symm
theorem lX0_turn_L86 {Γ : KT} (C : CX Γ cX0_turn 10 wsX0_turn RX0 ({ frames := 2, cells := 0, slots := 0, locals := 43 } : Room)) (h0 : Nat) (a_s_given : Nat) (a_s_numbers : Nat) (a_s_frees : Nat) (a_s_uppers : Nat) (x1 : Int32) (x7 : Int64) (s_n : Int32) (s_m : Int32) (s_turnsTaken : Int32) (s_settled : Int32) (s_given : Nat → Int32) (s_frees : Nat → Int32) (s_uppers : Nat → Int64) (x9 : Int32) (s_numbers : Nat → Int64) (N : Nat) (e : (Nat → Int64)) (hN : itr (fX0_turn_L86 x1 x7 s_n) N (x9, s_numbers) = some e) (he0 : (∀ (s_numbers' : Nat → Int64), e = s_numbers' → V Γ 10 0 0 125 [(0, .ref h0)] [] [(h0, eO 0 [.ref a_s_given, .ref a_s_numbers, .ref a_s_frees, .ref a_s_uppers, .int s_n, .int s_m, .int s_turnsTaken, .int s_settled]), (a_s_given, eI 25 s_given), (a_s_numbers, eJ 25 s_numbers'), (a_s_frees, eZ 4 s_frees), (a_s_uppers, eJ 4 s_uppers)])) : V Γ 10 0 0 86 [(0, .ref h0), (1, .int x1), (7, .long x7), (9, .int x9)] [] [(h0, eO 0 [.ref a_s_given, .ref a_s_numbers, .ref a_s_frees, .ref a_s_uppers, .int s_n, .int s_m, .int s_turnsTaken, .int s_settled]), (a_s_given, eI 25 s_given), (a_s_numbers, eJ 25 s_numbers), (a_s_frees, eZ 4 s_frees), (a_s_uppers, eJ 4 s_uppers)] := by
  induction N generalizing x9 s_numbers with
  | zero => exact absurd hN (fun h => itr_0 h)
  | succ N ih =>
    obtain ⟨x, hx, hN⟩ := itr_s hN
    refine bX0_turn_L86 C h0 a_s_given a_s_numbers a_s_frees a_s_uppers x1 x7 s_n s_m s_turnsTaken s_settled s_given s_frees s_uppers x9 s_numbers x hx (fun x9' s_numbers' h => ih x9' s_numbers' (by subst h; exact hN)) (fun y0 h => he0 y0 (by subst h; exact (Option.some.inj hN).symm))
def fX0_turn (p0 : Int32) (p1 : Int32) (s_n : Int32) (s_turnsTaken : Int32) (s_settled : Int32) (s_numbers : Nat → Int64) : Option ((Int32) × (Nat → Int64)) := Option.bind (fX0_cell p0 p1 s_numbers) (fun r_1 => Option.bind (fX0_cell s_settled p1 s_numbers) (fun r_3 => bn2 (itr (fX0_turn_L24 p0 r_1 r_3 s_n s_settled) KF ((0 : Int64), (0 : Int32), s_numbers)) (fun x7_18 u_19 => Option.bind (itr (fX0_turn_L86 p0 x7_18 s_n) KF ((0 : Int32), u_19)) (fun u_29 => some (s_turnsTaken + (1 : Int32), u_29)))))
set_option maxHeartbeats 4000000 in
set_option maxRecDepth 100000 in
theorem kX0_turn {l : Launch} (h0 : Nat) (a_s_given : Nat) (a_s_numbers : Nat) (a_s_frees : Nat) (a_s_uppers : Nat) (s_n : Int32) (s_m : Int32) (s_turnsTaken : Int32) (s_settled : Int32) (s_given : Nat → Int32) (s_numbers : Nat → Int64) (s_frees : Nat → Int32) (s_uppers : Nat → Int64) (p0 : Int32) (p1 : Int32) (o_s_turnsTaken : Int32) (o_s_numbers : Nat → Int64) (hm : fX0_turn p0 p1 s_n s_turnsTaken s_settled s_numbers = some (o_s_turnsTaken, o_s_numbers)) : CtV l yX0_turn wsX0_turn ({ frames := 2, cells := 0, slots := 0, locals := 43 } : Room) [.ref h0, .int p0, .int p1] [(h0, eO 0 [.ref a_s_given, .ref a_s_numbers, .ref a_s_frees, .ref a_s_uppers, .int s_n, .int s_m, .int s_turnsTaken, .int s_settled]), (a_s_given, eI 25 s_given), (a_s_numbers, eJ 25 s_numbers), (a_s_frees, eZ 4 s_frees), (a_s_uppers, eJ 4 s_uppers)] [(h0, eO 0 [.ref a_s_given, .ref a_s_numbers, .ref a_s_frees, .ref a_s_uppers, .int s_n, .int s_m, .int o_s_turnsTaken, .int s_settled]), (a_s_given, eI 25 s_given), (a_s_numbers, eJ 25 o_s_numbers), (a_s_frees, eZ 4 s_frees), (a_s_uppers, eJ 4 s_uppers)] := by
  refine CtV_of (cc := cX0_turn) (maxL := 10) (own := RX0) rfl (by decide) rfl (lv0 := [(0, .ref h0), (1, .int p0), (2, .int p1)]) rfl (Nat.le_of_ble_eq_true rfl) (fun Γ hL C hR => ?_)
  subst hL
  unfold fX0_turn at hm
  refine V_aload_n C 0 dX0_turn_0 rfl rfl ?_
  refine V_iload_n C 1 dX0_turn_1 rfl rfl ?_
  refine V_iload_n C 2 dX0_turn_2 rfl rfl ?_
  obtain ⟨r_1, hc_2, hm⟩ := bnd hm
  refine V_callVL C (As := [.int p0, .int p1]) (wr := []) (ws2 := [(h0, eO 0 [.ref a_s_given, .ref a_s_numbers, .ref a_s_frees, .ref a_s_uppers, .int s_n, .int s_m, .int s_turnsTaken, .int s_settled]), (a_s_given, eI 25 s_given), (a_s_numbers, eJ 25 s_numbers), (a_s_frees, eZ 4 s_frees), (a_s_uppers, eJ 4 s_uppers)]) (kX0_cell h0 a_s_given a_s_numbers a_s_frees a_s_uppers s_n s_m s_turnsTaken s_settled s_given s_numbers s_frees s_uppers p0 p1 r_1 hc_2) gX0_turn_X0_cell rfl ⟨rfl, rfl⟩ hdX0_cell ⟨Nat.le_of_ble_eq_true rfl, Nat.le_of_ble_eq_true rfl⟩ ⟨Nat.zero_le _, Nat.zero_le _⟩ 0 rfl rfl [0, 1, 2, 3, 4] [] [0, 1, 2, 3, 4] rfl rfl ⟨rfl, rfl, rfl⟩ (by decide) rfl rfl (Nat.le_of_ble_eq_true rfl) dX0_turn_3 ?_
  refine V_lstore_n C (lv' := [(3, .long r_1), (0, .ref h0), (1, .int p0), (2, .int p1)]) dX0_turn_6 rfl (by decide) rfl ?_
  refine V_aload_n C 1 dX0_turn_7 rfl rfl ?_
  refine V_aload_n C 1 dX0_turn_8 rfl rfl ?_
  refine V_get C uX0_turn_X0 0 7 rfl rfl (by decide) mX0_turn_1 rfl dX0_turn_9 ?_
  refine V_iload_n C 3 dX0_turn_12 rfl rfl ?_
  obtain ⟨r_3, hc_4, hm⟩ := bnd hm
  refine V_callVL C (As := [.int s_settled, .int p1]) (wr := []) (ws2 := [(h0, eO 0 [.ref a_s_given, .ref a_s_numbers, .ref a_s_frees, .ref a_s_uppers, .int s_n, .int s_m, .int s_turnsTaken, .int s_settled]), (a_s_given, eI 25 s_given), (a_s_numbers, eJ 25 s_numbers), (a_s_frees, eZ 4 s_frees), (a_s_uppers, eJ 4 s_uppers)]) (kX0_cell h0 a_s_given a_s_numbers a_s_frees a_s_uppers s_n s_m s_turnsTaken s_settled s_given s_numbers s_frees s_uppers s_settled p1 r_3 hc_4) gX0_turn_X0_cell rfl ⟨rfl, rfl⟩ hdX0_cell ⟨Nat.le_of_ble_eq_true rfl, Nat.le_of_ble_eq_true rfl⟩ ⟨Nat.zero_le _, Nat.zero_le _⟩ 0 rfl rfl [0, 1, 2, 3, 4] [] [0, 1, 2, 3, 4] rfl rfl ⟨rfl, rfl, rfl⟩ (by decide) rfl rfl (Nat.le_of_ble_eq_true rfl) dX0_turn_13 ?_
  refine V_lstore C (lv' := [(5, .long r_3), (3, .long r_1), (0, .ref h0), (1, .int p0), (2, .int p1)]) dX0_turn_16 (by decide) rfl ?_
  refine V_lconst C (v := (0 : Int64)) dX0_turn_18 (by decide) ?_
  refine V_lstore C (lv' := [(7, .long (0 : Int64)), (5, .long r_3), (3, .long r_1), (0, .ref h0), (1, .int p0), (2, .int p1)]) dX0_turn_19 (by decide) rfl ?_
  refine V_iconst C (v := (0 : Int32)) dX0_turn_21 (by decide) ?_
  refine V_istore C (lv' := [(9, .int (0 : Int32)), (7, .long (0 : Int64)), (5, .long r_3), (3, .long r_1), (0, .ref h0), (1, .int p0), (2, .int p1)]) dX0_turn_22 (by decide) rfl ?_
  obtain ⟨x7_18, u_19, hE_17, hm⟩ := bd2 hm
  refine V_lv [4, 5, 3, 2, 1, 0] rfl ?_
  refine lX0_turn_L24 C h0 a_s_given a_s_numbers a_s_frees a_s_uppers p0 r_1 r_3 s_n s_m s_turnsTaken s_settled s_given s_frees s_uppers (0 : Int64) (0 : Int32) s_numbers KF _ hE_17 ?_
  intro q_31 q_32 hq
  cases hq
  refine V_iconst C (v := (0 : Int32)) dX0_turn_83 (by decide) ?_
  refine V_istore C (lv' := [(9, .int (0 : Int32)), (0, .ref h0), (1, .int p0), (7, .long x7_18)]) dX0_turn_84 (by decide) rfl ?_
  obtain ⟨u_29, hE_28, hm⟩ := bnd hm
  refine V_lv [1, 2, 3, 0] rfl ?_
  refine lX0_turn_L86 C h0 a_s_given a_s_numbers a_s_frees a_s_uppers p0 x7_18 s_n s_m s_turnsTaken s_settled s_given s_frees s_uppers (0 : Int32) u_19 KF _ hE_28 ?_
  intro q_30 hq
  cases hq
  refine V_aload_n C 0 dX0_turn_125 rfl rfl ?_
  refine V_dup C dX0_turn_126 rfl ?_
  refine V_get C uX0_turn_X0 0 6 rfl rfl (by decide) mX0_turn_3 rfl dX0_turn_127 ?_
  refine V_iconst C (v := (1 : Int32)) dX0_turn_130 (by decide) ?_
  refine V_iadd C dX0_turn_131 ?_
  refine V_put C (ty := .int) uX0_turn_X0 tyX0 tyX0_ok nmX0 0 6 rfl rfl (by decide) mX0_turn_3 rfl (by decide +kernel) rfl rfl (Nat.le_of_ble_eq_true rfl) dX0_turn_132 (ws' := [(h0, eO 0 [.ref a_s_given, .ref a_s_numbers, .ref a_s_frees, .ref a_s_uppers, .int s_n, .int s_m, .int (s_turnsTaken + (1 : Int32)), .int s_settled]), (a_s_given, eI 25 s_given), (a_s_numbers, eJ 25 u_29), (a_s_frees, eZ 4 s_frees), (a_s_uppers, eJ 4 s_uppers)]) rfl ?_
  cases hm
  exact hR _ _ dX0_turn_135
theorem hdX0_turn : yX0_turn.cls = RX0 ∧ yX0_turn.cls ≠ "java/lang/invoke/MethodHandle" ∧ yX0_turn.cls ≠ "java/lang/invoke/VarHandle" ∧ (parseMethodDescriptor yX0_turn.desc).map (fun d => d.parameters.length) = some 2 := by decide +kernel
-- RodBoard$Clearing.turnAllBehind(I)V
theorem uX0_turnAllBehind_X0 : ∀ w ∈ wsX00, w ∈ wsX0_turnAllBehind := fun _ h => List.mem_cons_of_mem _ (List.mem_append_right _ h)
theorem mX0_turnAllBehind_1 : Cond.fieldLink RX0 36 "RodBoard$Clearing" "settled" "I" ∈ wsX0_turnAllBehind := List.mem_of_getElem? (i := 1) rfl
theorem mX0_turnAllBehind_2 : Cond.fieldLink RX0 30 "RodBoard$Clearing" "m" "I" ∈ wsX0_turnAllBehind := List.mem_of_getElem? (i := 2) rfl
def fX0_turnAllBehind_L7b (x1 : Int32) (s_n : Int32) (s_m : Int32) (s_settled : Int32) (x2 : Int32) (s_turnsTaken : Int32) (s_numbers : Nat → Int64) : Option (((Int32) × (Int32) × (Nat → Int64)) ⊕ ((Int32) × (Nat → Int64))) := if x2 < s_m then Option.bind (fX0_cell x2 x1 s_numbers) (fun r_2 => if r_2 = (0 : Int64) then some (Sum.inl (x2 + (1 : Int32), s_turnsTaken, s_numbers)) else bn2 (fX0_turn x2 x1 s_n s_turnsTaken s_settled s_numbers) (fun w_5 w_6 => some (Sum.inl (x2 + (1 : Int32), w_5, w_6)))) else some (Sum.inr (s_turnsTaken, s_numbers))
def fX0_turnAllBehind_L7 (x1 : Int32) (s_n : Int32) (s_m : Int32) (s_settled : Int32) : ((Int32) × (Int32) × (Nat → Int64)) → Option (((Int32) × (Int32) × (Nat → Int64)) ⊕ ((Int32) × (Nat → Int64))) := fun e => fX0_turnAllBehind_L7b x1 s_n s_m s_settled e.1 e.2.1 e.2.2
set_option maxHeartbeats 4000000 in
set_option maxRecDepth 100000 in
theorem bX0_turnAllBehind_L7 {Γ : KT} (C : CX Γ cX0_turnAllBehind 3 wsX0_turnAllBehind RX0 ({ frames := 3, cells := 0, slots := 0, locals := 72 } : Room)) (h0 : Nat) (a_s_given : Nat) (a_s_numbers : Nat) (a_s_frees : Nat) (a_s_uppers : Nat) (x1 : Int32) (s_n : Int32) (s_m : Int32) (s_settled : Int32) (s_given : Nat → Int32) (s_frees : Nat → Int32) (s_uppers : Nat → Int64) (x2 : Int32) (s_turnsTaken : Int32) (s_numbers : Nat → Int64) (x : ((Int32) × (Int32) × (Nat → Int64)) ⊕ ((Int32) × (Nat → Int64))) (hm : fX0_turnAllBehind_L7b x1 s_n s_m s_settled x2 s_turnsTaken s_numbers = some x) (hb : (∀ (x2' : Int32) (s_turnsTaken' : Int32) (s_numbers' : Nat → Int64), x = Sum.inl (x2', s_turnsTaken', s_numbers') → V Γ 3 0 0 7 [(0, .ref h0), (1, .int x1), (2, .int x2')] [] [(h0, eO 0 [.ref a_s_given, .ref a_s_numbers, .ref a_s_frees, .ref a_s_uppers, .int s_n, .int s_m, .int s_turnsTaken', .int s_settled]), (a_s_given, eI 25 s_given), (a_s_numbers, eJ 25 s_numbers'), (a_s_frees, eZ 4 s_frees), (a_s_uppers, eJ 4 s_uppers)])) (he0 : (∀ (s_turnsTaken' : Int32) (s_numbers' : Nat → Int64), x = Sum.inr (s_turnsTaken', s_numbers') → V Γ 3 0 0 38 [] [] [(h0, eO 0 [.ref a_s_given, .ref a_s_numbers, .ref a_s_frees, .ref a_s_uppers, .int s_n, .int s_m, .int s_turnsTaken', .int s_settled]), (a_s_given, eI 25 s_given), (a_s_numbers, eJ 25 s_numbers'), (a_s_frees, eZ 4 s_frees), (a_s_uppers, eJ 4 s_uppers)])) : V Γ 3 0 0 7 [(0, .ref h0), (1, .int x1), (2, .int x2)] [] [(h0, eO 0 [.ref a_s_given, .ref a_s_numbers, .ref a_s_frees, .ref a_s_uppers, .int s_n, .int s_m, .int s_turnsTaken, .int s_settled]), (a_s_given, eI 25 s_given), (a_s_numbers, eJ 25 s_numbers), (a_s_frees, eZ 4 s_frees), (a_s_uppers, eJ 4 s_uppers)] := by
  unfold fX0_turnAllBehind_L7b at hm
  refine V_iload_n C 2 dX0_turnAllBehind_7 rfl rfl ?_
  refine V_aload_n C 0 dX0_turnAllBehind_8 rfl rfl ?_
  refine V_get C uX0_turnAllBehind_X0 0 5 rfl rfl (by decide) mX0_turnAllBehind_2 rfl dX0_turnAllBehind_9 ?_
  refine V_icmp_ge C 38 dX0_turnAllBehind_12 (by decide) (fun c_1 => ?_) (fun c_1 => ?_)
  · have hm := ite_t c_1 hm
    refine V_aload_n C 0 dX0_turnAllBehind_15 rfl rfl ?_
    refine V_iload_n C 2 dX0_turnAllBehind_16 rfl rfl ?_
    refine V_iload_n C 1 dX0_turnAllBehind_17 rfl rfl ?_
    obtain ⟨r_2, hc_3, hm⟩ := bnd hm
    refine V_callVL C (As := [.int x2, .int x1]) (wr := []) (ws2 := [(h0, eO 0 [.ref a_s_given, .ref a_s_numbers, .ref a_s_frees, .ref a_s_uppers, .int s_n, .int s_m, .int s_turnsTaken, .int s_settled]), (a_s_given, eI 25 s_given), (a_s_numbers, eJ 25 s_numbers), (a_s_frees, eZ 4 s_frees), (a_s_uppers, eJ 4 s_uppers)]) (kX0_cell h0 a_s_given a_s_numbers a_s_frees a_s_uppers s_n s_m s_turnsTaken s_settled s_given s_numbers s_frees s_uppers x2 x1 r_2 hc_3) gX0_turnAllBehind_X0_cell rfl ⟨rfl, rfl⟩ hdX0_cell ⟨Nat.le_of_ble_eq_true rfl, Nat.le_of_ble_eq_true rfl⟩ ⟨Nat.zero_le _, Nat.zero_le _⟩ 0 rfl rfl [0, 1, 2, 3, 4] [] [0, 1, 2, 3, 4] rfl rfl ⟨rfl, rfl, rfl⟩ (by decide) rfl rfl (Nat.le_of_ble_eq_true rfl) dX0_turnAllBehind_18 ?_
    refine V_lconst C (v := (0 : Int64)) dX0_turnAllBehind_21 (by decide) ?_
    refine V_lcmp_eq C 32 dX0_turnAllBehind_22 dX0_turnAllBehind_23 (by decide) (fun c_4 => ?_) (fun c_4 => ?_)
    · have hm := ite_t c_4 hm
      refine V_iinc C 2 (v := x2 + (1 : Int32)) (lv' := [(2, .int (x2 + (1 : Int32))), (0, .ref h0), (1, .int x1)]) dX0_turnAllBehind_32 rfl rfl (by decide) rfl ?_
      refine V_goto C 7 dX0_turnAllBehind_35 (by decide) ?_
      refine V_lv [1, 2, 0] rfl ?_
      exact hb (x2 + (1 : Int32)) s_turnsTaken s_numbers (Option.some.inj hm).symm
    · have hm := ite_f c_4 hm
      refine V_aload_n C 0 dX0_turnAllBehind_26 rfl rfl ?_
      refine V_iload_n C 2 dX0_turnAllBehind_27 rfl rfl ?_
      refine V_iload_n C 1 dX0_turnAllBehind_28 rfl rfl ?_
      obtain ⟨w_5, w_6, hc_7, hm⟩ := bd2 hm
      refine V_callVV C (As := [.int x2, .int x1]) (wr := []) (ws2 := [(h0, eO 0 [.ref a_s_given, .ref a_s_numbers, .ref a_s_frees, .ref a_s_uppers, .int s_n, .int s_m, .int w_5, .int s_settled]), (a_s_given, eI 25 s_given), (a_s_numbers, eJ 25 w_6), (a_s_frees, eZ 4 s_frees), (a_s_uppers, eJ 4 s_uppers)]) (kX0_turn h0 a_s_given a_s_numbers a_s_frees a_s_uppers s_n s_m s_turnsTaken s_settled s_given s_numbers s_frees s_uppers x2 x1 w_5 w_6 hc_7) gX0_turnAllBehind_X0_turn rfl ⟨rfl, rfl⟩ hdX0_turn ⟨Nat.le_of_ble_eq_true rfl, Nat.le_of_ble_eq_true rfl⟩ ⟨Nat.zero_le _, Nat.zero_le _⟩ 0 rfl rfl [0, 1, 2, 3, 4] [] [0, 1, 2, 3, 4] rfl rfl ⟨rfl, rfl, rfl⟩ (by decide) rfl rfl (Nat.le_of_ble_eq_true rfl) dX0_turnAllBehind_29 ?_
      refine V_iinc C 2 (v := x2 + (1 : Int32)) (lv' := [(2, .int (x2 + (1 : Int32))), (0, .ref h0), (1, .int x1)]) dX0_turnAllBehind_32 rfl rfl (by decide) rfl ?_
      refine V_goto C 7 dX0_turnAllBehind_35 (by decide) ?_
      refine V_lv [1, 2, 0] rfl ?_
      exact hb (x2 + (1 : Int32)) w_5 w_6 (Option.some.inj hm).symm
  · have hm := ite_f c_1 hm
    refine V_lv [] rfl ?_
    exact he0 s_turnsTaken s_numbers (Option.some.inj hm).symm
theorem lX0_turnAllBehind_L7 {Γ : KT} (C : CX Γ cX0_turnAllBehind 3 wsX0_turnAllBehind RX0 ({ frames := 3, cells := 0, slots := 0, locals := 72 } : Room)) (h0 : Nat) (a_s_given : Nat) (a_s_numbers : Nat) (a_s_frees : Nat) (a_s_uppers : Nat) (x1 : Int32) (s_n : Int32) (s_m : Int32) (s_settled : Int32) (s_given : Nat → Int32) (s_frees : Nat → Int32) (s_uppers : Nat → Int64) (x2 : Int32) (s_turnsTaken : Int32) (s_numbers : Nat → Int64) (N : Nat) (e : (Int32) × (Nat → Int64)) (hN : itr (fX0_turnAllBehind_L7 x1 s_n s_m s_settled) N (x2, s_turnsTaken, s_numbers) = some e) (he0 : (∀ (s_turnsTaken' : Int32) (s_numbers' : Nat → Int64), e = (s_turnsTaken', s_numbers') → V Γ 3 0 0 38 [] [] [(h0, eO 0 [.ref a_s_given, .ref a_s_numbers, .ref a_s_frees, .ref a_s_uppers, .int s_n, .int s_m, .int s_turnsTaken', .int s_settled]), (a_s_given, eI 25 s_given), (a_s_numbers, eJ 25 s_numbers'), (a_s_frees, eZ 4 s_frees), (a_s_uppers, eJ 4 s_uppers)])) : V Γ 3 0 0 7 [(0, .ref h0), (1, .int x1), (2, .int x2)] [] [(h0, eO 0 [.ref a_s_given, .ref a_s_numbers, .ref a_s_frees, .ref a_s_uppers, .int s_n, .int s_m, .int s_turnsTaken, .int s_settled]), (a_s_given, eI 25 s_given), (a_s_numbers, eJ 25 s_numbers), (a_s_frees, eZ 4 s_frees), (a_s_uppers, eJ 4 s_uppers)] := by
  induction N generalizing x2 s_turnsTaken s_numbers with
  | zero => exact absurd hN (fun h => itr_0 h)
  | succ N ih =>
    obtain ⟨x, hx, hN⟩ := itr_s hN
    refine bX0_turnAllBehind_L7 C h0 a_s_given a_s_numbers a_s_frees a_s_uppers x1 s_n s_m s_settled s_given s_frees s_uppers x2 s_turnsTaken s_numbers x hx (fun x2' s_turnsTaken' s_numbers' h => ih x2' s_turnsTaken' s_numbers' (by subst h; exact hN)) (fun y0 y1 h => he0 y0 y1 (by subst h; exact (Option.some.inj hN).symm))
def fX0_turnAllBehind (p0 : Int32) (s_n : Int32) (s_m : Int32) (s_turnsTaken : Int32) (s_settled : Int32) (s_numbers : Nat → Int64) : Option ((Int32) × (Nat → Int64)) := bn2 (itr (fX0_turnAllBehind_L7 p0 s_n s_m s_settled) KF (s_settled + (1 : Int32), s_turnsTaken, s_numbers)) (fun u_10 u_11 => some (u_10, u_11))
set_option maxHeartbeats 4000000 in
set_option maxRecDepth 100000 in
theorem kX0_turnAllBehind {l : Launch} (h0 : Nat) (a_s_given : Nat) (a_s_numbers : Nat) (a_s_frees : Nat) (a_s_uppers : Nat) (s_n : Int32) (s_m : Int32) (s_turnsTaken : Int32) (s_settled : Int32) (s_given : Nat → Int32) (s_numbers : Nat → Int64) (s_frees : Nat → Int32) (s_uppers : Nat → Int64) (p0 : Int32) (o_s_turnsTaken : Int32) (o_s_numbers : Nat → Int64) (hm : fX0_turnAllBehind p0 s_n s_m s_turnsTaken s_settled s_numbers = some (o_s_turnsTaken, o_s_numbers)) : CtV l yX0_turnAllBehind wsX0_turnAllBehind ({ frames := 3, cells := 0, slots := 0, locals := 72 } : Room) [.ref h0, .int p0] [(h0, eO 0 [.ref a_s_given, .ref a_s_numbers, .ref a_s_frees, .ref a_s_uppers, .int s_n, .int s_m, .int s_turnsTaken, .int s_settled]), (a_s_given, eI 25 s_given), (a_s_numbers, eJ 25 s_numbers), (a_s_frees, eZ 4 s_frees), (a_s_uppers, eJ 4 s_uppers)] [(h0, eO 0 [.ref a_s_given, .ref a_s_numbers, .ref a_s_frees, .ref a_s_uppers, .int s_n, .int s_m, .int o_s_turnsTaken, .int s_settled]), (a_s_given, eI 25 s_given), (a_s_numbers, eJ 25 o_s_numbers), (a_s_frees, eZ 4 s_frees), (a_s_uppers, eJ 4 s_uppers)] := by
  refine CtV_of (cc := cX0_turnAllBehind) (maxL := 3) (own := RX0) rfl (by decide) rfl (lv0 := [(0, .ref h0), (1, .int p0)]) rfl (Nat.le_of_ble_eq_true rfl) (fun Γ hL C hR => ?_)
  subst hL
  unfold fX0_turnAllBehind at hm
  refine V_aload_n C 0 dX0_turnAllBehind_0 rfl rfl ?_
  refine V_get C uX0_turnAllBehind_X0 0 7 rfl rfl (by decide) mX0_turnAllBehind_1 rfl dX0_turnAllBehind_1 ?_
  refine V_iconst C (v := (1 : Int32)) dX0_turnAllBehind_4 (by decide) ?_
  refine V_iadd C dX0_turnAllBehind_5 ?_
  refine V_istore_n C (lv' := [(2, .int (s_settled + (1 : Int32))), (0, .ref h0), (1, .int p0)]) dX0_turnAllBehind_6 rfl (by decide) rfl ?_
  obtain ⟨u_10, u_11, hE_9, hm⟩ := bd2 hm
  refine V_lv [1, 2, 0] rfl ?_
  refine lX0_turnAllBehind_L7 C h0 a_s_given a_s_numbers a_s_frees a_s_uppers p0 s_n s_m s_settled s_given s_frees s_uppers (s_settled + (1 : Int32)) s_turnsTaken s_numbers KF _ hE_9 ?_
  intro q_12 q_13 hq
  cases hq
  cases hm
  exact hR _ _ dX0_turnAllBehind_38
theorem hdX0_turnAllBehind : yX0_turnAllBehind.cls = RX0 ∧ yX0_turnAllBehind.cls ≠ "java/lang/invoke/MethodHandle" ∧ yX0_turnAllBehind.cls ≠ "java/lang/invoke/VarHandle" ∧ (parseMethodDescriptor yX0_turnAllBehind.desc).map (fun d => d.parameters.length) = some 1 := by decide +kernel
-- RodBoard$Clearing.clear()V
theorem uX0_clear_X0 : ∀ w ∈ wsX00, w ∈ wsX0_clear := fun _ h => List.mem_cons_of_mem _ (List.mem_append_right _ h)
theorem mX0_clear_1 : Cond.fieldLink RX0 15 "RodBoard$Clearing" "numbers" "[J" ∈ wsX0_clear := List.mem_of_getElem? (i := 1) rfl
theorem mX0_clear_2 : Cond.fieldLink RX0 11 "RodBoard$Clearing" "given" "[I" ∈ wsX0_clear := List.mem_of_getElem? (i := 2) rfl
theorem mX0_clear_3 : Cond.fieldLink RX0 33 "RodBoard$Clearing" "turnsTaken" "I" ∈ wsX0_clear := List.mem_of_getElem? (i := 3) rfl
theorem mX0_clear_4 : Cond.fieldLink RX0 36 "RodBoard$Clearing" "settled" "I" ∈ wsX0_clear := List.mem_of_getElem? (i := 4) rfl
theorem mX0_clear_5 : Cond.fieldLink RX0 26 "RodBoard$Clearing" "n" "I" ∈ wsX0_clear := List.mem_of_getElem? (i := 5) rfl
theorem mX0_clear_6 : Cond.fieldLink RX0 19 "RodBoard$Clearing" "frees" "[Z" ∈ wsX0_clear := List.mem_of_getElem? (i := 6) rfl
def fX0_clear_L2b (s_given : Nat → Int32) (x1 : Int32) (s_numbers : Nat → Int64) : Option (((Int32) × (Nat → Int64)) ⊕ ((Nat → Int64))) := if x1 < (25 : Int32) then if x1 < (25 : Int32) then Option.bind (rdI s_given 25 x1) (fun v_3 => Option.bind (wrJ s_numbers 25 x1 v_3.toInt64) (fun g_4 => some (Sum.inl (x1 + (1 : Int32), g_4)))) else some (Sum.inr s_numbers) else some (Sum.inr s_numbers)
def fX0_clear_L2 (s_given : Nat → Int32) : ((Int32) × (Nat → Int64)) → Option (((Int32) × (Nat → Int64)) ⊕ ((Nat → Int64))) := fun e => fX0_clear_L2b s_given e.1 e.2
set_option maxHeartbeats 4000000 in
set_option maxRecDepth 100000 in
theorem bX0_clear_L2 {Γ : KT} (C : CX Γ cX0_clear 3 wsX0_clear RX0 ({ frames := 4, cells := 0, slots := 0, locals := 94 } : Room)) (h0 : Nat) (a_s_given : Nat) (a_s_numbers : Nat) (a_s_frees : Nat) (a_s_uppers : Nat) (s_n : Int32) (s_m : Int32) (s_turnsTaken : Int32) (s_settled : Int32) (s_given : Nat → Int32) (s_frees : Nat → Int32) (s_uppers : Nat → Int64) (x1 : Int32) (s_numbers : Nat → Int64) (x : ((Int32) × (Nat → Int64)) ⊕ ((Nat → Int64))) (hm : fX0_clear_L2b s_given x1 s_numbers = some x) (hb : (∀ (x1' : Int32) (s_numbers' : Nat → Int64), x = Sum.inl (x1', s_numbers') → V Γ 3 0 0 2 [(0, .ref h0), (1, .int x1')] [] [(h0, eO 0 [.ref a_s_given, .ref a_s_numbers, .ref a_s_frees, .ref a_s_uppers, .int s_n, .int s_m, .int s_turnsTaken, .int s_settled]), (a_s_given, eI 25 s_given), (a_s_numbers, eJ 25 s_numbers'), (a_s_frees, eZ 4 s_frees), (a_s_uppers, eJ 4 s_uppers)])) (he0 : (∀ (s_numbers' : Nat → Int64), x = Sum.inr s_numbers' → V Γ 3 0 0 39 [(0, .ref h0)] [] [(h0, eO 0 [.ref a_s_given, .ref a_s_numbers, .ref a_s_frees, .ref a_s_uppers, .int s_n, .int s_m, .int s_turnsTaken, .int s_settled]), (a_s_given, eI 25 s_given), (a_s_numbers, eJ 25 s_numbers'), (a_s_frees, eZ 4 s_frees), (a_s_uppers, eJ 4 s_uppers)])) : V Γ 3 0 0 2 [(0, .ref h0), (1, .int x1)] [] [(h0, eO 0 [.ref a_s_given, .ref a_s_numbers, .ref a_s_frees, .ref a_s_uppers, .int s_n, .int s_m, .int s_turnsTaken, .int s_settled]), (a_s_given, eI 25 s_given), (a_s_numbers, eJ 25 s_numbers), (a_s_frees, eZ 4 s_frees), (a_s_uppers, eJ 4 s_uppers)] := by
  unfold fX0_clear_L2b at hm
  refine V_iload_n C 1 dX0_clear_2 rfl rfl ?_
  refine V_aload_n C 0 dX0_clear_3 rfl rfl ?_
  refine V_get C uX0_clear_X0 0 1 rfl rfl (by decide) mX0_clear_1 rfl dX0_clear_4 ?_
  refine V_alen C (v := (25 : Int32)) 2 1 rfl rfl rfl rfl dX0_clear_7 ?_
  refine V_icmp_ge C 39 dX0_clear_8 (by decide) (fun c_1 => ?_) (fun c_1 => ?_)
  · have hm := ite_t c_1 hm
    refine V_iload_n C 1 dX0_clear_11 rfl rfl ?_
    refine V_aload_n C 0 dX0_clear_12 rfl rfl ?_
    refine V_get C uX0_clear_X0 0 0 rfl rfl (by decide) mX0_clear_2 rfl dX0_clear_13 ?_
    refine V_alen C (v := (25 : Int32)) 1 0 rfl rfl rfl rfl dX0_clear_16 ?_
    refine V_icmp_ge C 39 dX0_clear_17 (by decide) (fun c_2 => ?_) (fun c_2 => ?_)
    · have hm := ite_t c_2 hm
      refine V_aload_n C 0 dX0_clear_20 rfl rfl ?_
      refine V_get C uX0_clear_X0 0 1 rfl rfl (by decide) mX0_clear_1 rfl dX0_clear_21 ?_
      refine V_iload_n C 1 dX0_clear_24 rfl rfl ?_
      refine V_aload_n C 0 dX0_clear_25 rfl rfl ?_
      refine V_get C uX0_clear_X0 0 0 rfl rfl (by decide) mX0_clear_2 rfl dX0_clear_26 ?_
      refine V_iload_n C 1 dX0_clear_29 rfl rfl ?_
      obtain ⟨v_3, hv_3, hm⟩ := bnd hm
      refine V_iald C 1 rfl hv_3 dX0_clear_30 ?_
      refine V_i2l C dX0_clear_31 ?_
      obtain ⟨g_4, hg_4, hm⟩ := bnd hm
      refine V_last C 2 rfl hg_4 dX0_clear_32 (ws' := [(h0, eO 0 [.ref a_s_given, .ref a_s_numbers, .ref a_s_frees, .ref a_s_uppers, .int s_n, .int s_m, .int s_turnsTaken, .int s_settled]), (a_s_given, eI 25 s_given), (a_s_numbers, eJ 25 g_4), (a_s_frees, eZ 4 s_frees), (a_s_uppers, eJ 4 s_uppers)]) rfl ?_
      refine V_iinc C 1 (v := x1 + (1 : Int32)) (lv' := [(1, .int (x1 + (1 : Int32))), (0, .ref h0)]) dX0_clear_33 rfl rfl (by decide) rfl ?_
      refine V_goto C 2 dX0_clear_36 (by decide) ?_
      refine V_lv [1, 0] rfl ?_
      exact hb (x1 + (1 : Int32)) g_4 (Option.some.inj hm).symm
    · have hm := ite_f c_2 hm
      refine V_lv [0] rfl ?_
      exact he0 s_numbers (Option.some.inj hm).symm
  · have hm := ite_f c_1 hm
    refine V_lv [0] rfl ?_
    exact he0 s_numbers (Option.some.inj hm).symm
theorem lX0_clear_L2 {Γ : KT} (C : CX Γ cX0_clear 3 wsX0_clear RX0 ({ frames := 4, cells := 0, slots := 0, locals := 94 } : Room)) (h0 : Nat) (a_s_given : Nat) (a_s_numbers : Nat) (a_s_frees : Nat) (a_s_uppers : Nat) (s_n : Int32) (s_m : Int32) (s_turnsTaken : Int32) (s_settled : Int32) (s_given : Nat → Int32) (s_frees : Nat → Int32) (s_uppers : Nat → Int64) (x1 : Int32) (s_numbers : Nat → Int64) (N : Nat) (e : (Nat → Int64)) (hN : itr (fX0_clear_L2 s_given) N (x1, s_numbers) = some e) (he0 : (∀ (s_numbers' : Nat → Int64), e = s_numbers' → V Γ 3 0 0 39 [(0, .ref h0)] [] [(h0, eO 0 [.ref a_s_given, .ref a_s_numbers, .ref a_s_frees, .ref a_s_uppers, .int s_n, .int s_m, .int s_turnsTaken, .int s_settled]), (a_s_given, eI 25 s_given), (a_s_numbers, eJ 25 s_numbers'), (a_s_frees, eZ 4 s_frees), (a_s_uppers, eJ 4 s_uppers)])) : V Γ 3 0 0 2 [(0, .ref h0), (1, .int x1)] [] [(h0, eO 0 [.ref a_s_given, .ref a_s_numbers, .ref a_s_frees, .ref a_s_uppers, .int s_n, .int s_m, .int s_turnsTaken, .int s_settled]), (a_s_given, eI 25 s_given), (a_s_numbers, eJ 25 s_numbers), (a_s_frees, eZ 4 s_frees), (a_s_uppers, eJ 4 s_uppers)] := by
  induction N generalizing x1 s_numbers with
  | zero => exact absurd hN (fun h => itr_0 h)
  | succ N ih =>
    obtain ⟨x, hx, hN⟩ := itr_s hN
    refine bX0_clear_L2 C h0 a_s_given a_s_numbers a_s_frees a_s_uppers s_n s_m s_turnsTaken s_settled s_given s_frees s_uppers x1 s_numbers x hx (fun x1' s_numbers' h => ih x1' s_numbers' (by subst h; exact hN)) (fun y0 h => he0 y0 (by subst h; exact (Option.some.inj hN).symm))
def fX0_clear_L51b (s_n : Int32) (s_m : Int32) (x1 : Int32) (s_turnsTaken : Int32) (s_settled : Int32) (s_numbers : Nat → Int64) (s_frees : Nat → Int32) : Option (((Int32) × (Int32) × (Int32) × (Nat → Int64) × (Nat → Int32)) ⊕ ((Int32) × (Int32) × (Nat → Int64) × (Nat → Int32))) := if x1 < s_n then if x1 < (4 : Int32) then Option.bind (fX0_firstWith x1 s_m s_settled s_numbers) (fun r_10 => if r_10 = (-6 : Int32) then Option.bind (wrZ s_frees 4 x1 (1 : Int32)) (fun g_13 => if r_10 = (-6 : Int32) then some (Sum.inl (x1 + (1 : Int32), s_turnsTaken, s_settled, s_numbers, g_13)) else Option.bind (fX0_exchange r_10 s_settled s_n s_numbers) (fun w_15 => bn2 (fX0_turnAllBehind x1 s_n s_m s_turnsTaken s_settled w_15) (fun w_17 w_18 => some (Sum.inl (x1 + (1 : Int32), w_17, s_settled + (1 : Int32), w_18, g_13))))) else Option.bind (wrZ s_frees 4 x1 (0 : Int32)) (fun g_20 => if r_10 = (-6 : Int32) then some (Sum.inl (x1 + (1 : Int32), s_turnsTaken, s_settled, s_numbers, g_20)) else Option.bind (fX0_exchange r_10 s_settled s_n s_numbers) (fun w_22 => bn2 (fX0_turnAllBehind x1 s_n s_m s_turnsTaken s_settled w_22) (fun w_24 w_25 => some (Sum.inl (x1 + (1 : Int32), w_24, s_settled + (1 : Int32), w_25, g_20)))))) else some (Sum.inr (s_turnsTaken, s_settled, s_numbers, s_frees)) else some (Sum.inr (s_turnsTaken, s_settled, s_numbers, s_frees))
def fX0_clear_L51 (s_n : Int32) (s_m : Int32) : ((Int32) × (Int32) × (Int32) × (Nat → Int64) × (Nat → Int32)) → Option (((Int32) × (Int32) × (Int32) × (Nat → Int64) × (Nat → Int32)) ⊕ ((Int32) × (Int32) × (Nat → Int64) × (Nat → Int32))) := fun e => fX0_clear_L51b s_n s_m e.1 e.2.1 e.2.2.1 e.2.2.2.1 e.2.2.2.2
set_option maxHeartbeats 4000000 in
set_option maxRecDepth 100000 in
theorem bX0_clear_L51 {Γ : KT} (C : CX Γ cX0_clear 3 wsX0_clear RX0 ({ frames := 4, cells := 0, slots := 0, locals := 94 } : Room)) (h0 : Nat) (a_s_given : Nat) (a_s_numbers : Nat) (a_s_frees : Nat) (a_s_uppers : Nat) (s_n : Int32) (s_m : Int32) (s_given : Nat → Int32) (s_uppers : Nat → Int64) (x1 : Int32) (s_turnsTaken : Int32) (s_settled : Int32) (s_numbers : Nat → Int64) (s_frees : Nat → Int32) (x : ((Int32) × (Int32) × (Int32) × (Nat → Int64) × (Nat → Int32)) ⊕ ((Int32) × (Int32) × (Nat → Int64) × (Nat → Int32))) (hm : fX0_clear_L51b s_n s_m x1 s_turnsTaken s_settled s_numbers s_frees = some x) (hb : (∀ (x1' : Int32) (s_turnsTaken' : Int32) (s_settled' : Int32) (s_numbers' : Nat → Int64) (s_frees' : Nat → Int32), x = Sum.inl (x1', s_turnsTaken', s_settled', s_numbers', s_frees') → V Γ 3 0 0 51 [(0, .ref h0), (1, .int x1')] [] [(h0, eO 0 [.ref a_s_given, .ref a_s_numbers, .ref a_s_frees, .ref a_s_uppers, .int s_n, .int s_m, .int s_turnsTaken', .int s_settled']), (a_s_given, eI 25 s_given), (a_s_numbers, eJ 25 s_numbers'), (a_s_frees, eZ 4 s_frees'), (a_s_uppers, eJ 4 s_uppers)])) (he0 : (∀ (s_turnsTaken' : Int32) (s_settled' : Int32) (s_numbers' : Nat → Int64) (s_frees' : Nat → Int32), x = Sum.inr (s_turnsTaken', s_settled', s_numbers', s_frees') → V Γ 3 0 0 127 [] [] [(h0, eO 0 [.ref a_s_given, .ref a_s_numbers, .ref a_s_frees, .ref a_s_uppers, .int s_n, .int s_m, .int s_turnsTaken', .int s_settled']), (a_s_given, eI 25 s_given), (a_s_numbers, eJ 25 s_numbers'), (a_s_frees, eZ 4 s_frees'), (a_s_uppers, eJ 4 s_uppers)])) : V Γ 3 0 0 51 [(0, .ref h0), (1, .int x1)] [] [(h0, eO 0 [.ref a_s_given, .ref a_s_numbers, .ref a_s_frees, .ref a_s_uppers, .int s_n, .int s_m, .int s_turnsTaken, .int s_settled]), (a_s_given, eI 25 s_given), (a_s_numbers, eJ 25 s_numbers), (a_s_frees, eZ 4 s_frees), (a_s_uppers, eJ 4 s_uppers)] := by
  unfold fX0_clear_L51b at hm
  refine V_iload_n C 1 dX0_clear_51 rfl rfl ?_
  refine V_aload_n C 0 dX0_clear_52 rfl rfl ?_
  refine V_get C uX0_clear_X0 0 4 rfl rfl (by decide) mX0_clear_5 rfl dX0_clear_53 ?_
  refine V_icmp_ge C 127 dX0_clear_56 (by decide) (fun c_8 => ?_) (fun c_8 => ?_)
  · have hm := ite_t c_8 hm
    refine V_iload_n C 1 dX0_clear_59 rfl rfl ?_
    refine V_aload_n C 0 dX0_clear_60 rfl rfl ?_
    refine V_get C uX0_clear_X0 0 2 rfl rfl (by decide) mX0_clear_6 rfl dX0_clear_61 ?_
    refine V_alen C (v := (4 : Int32)) 3 2 rfl rfl rfl rfl dX0_clear_64 ?_
    refine V_icmp_ge C 127 dX0_clear_65 (by decide) (fun c_9 => ?_) (fun c_9 => ?_)
    · have hm := ite_t c_9 hm
      refine V_aload_n C 0 dX0_clear_68 rfl rfl ?_
      refine V_iload_n C 1 dX0_clear_69 rfl rfl ?_
      obtain ⟨r_10, hc_11, hm⟩ := bnd hm
      refine V_callVI C (As := [.int x1]) (wr := []) (ws2 := [(h0, eO 0 [.ref a_s_given, .ref a_s_numbers, .ref a_s_frees, .ref a_s_uppers, .int s_n, .int s_m, .int s_turnsTaken, .int s_settled]), (a_s_given, eI 25 s_given), (a_s_numbers, eJ 25 s_numbers), (a_s_frees, eZ 4 s_frees), (a_s_uppers, eJ 4 s_uppers)]) (kX0_firstWith h0 a_s_given a_s_numbers a_s_frees a_s_uppers s_n s_m s_turnsTaken s_settled s_given s_numbers s_frees s_uppers x1 r_10 hc_11) gX0_clear_X0_firstWith rfl ⟨rfl, rfl⟩ hdX0_firstWith ⟨Nat.le_of_ble_eq_true rfl, Nat.le_of_ble_eq_true rfl⟩ ⟨Nat.zero_le _, Nat.zero_le _⟩ 0 rfl rfl [0, 1, 2, 3, 4] [] [0, 1, 2, 3, 4] rfl rfl ⟨rfl, rfl, rfl⟩ (by decide) rfl rfl (Nat.le_of_ble_eq_true rfl) dX0_clear_70 ?_
      refine V_istore_n C (lv' := [(2, .int r_10), (0, .ref h0), (1, .int x1)]) dX0_clear_73 rfl (by decide) rfl ?_
      refine V_aload_n C 1 dX0_clear_74 rfl rfl ?_
      refine V_get C uX0_clear_X0 0 2 rfl rfl (by decide) mX0_clear_6 rfl dX0_clear_75 ?_
      refine V_iload_n C 2 dX0_clear_78 rfl rfl ?_
      refine V_iload_n C 0 dX0_clear_79 rfl rfl ?_
      refine V_bipush C (v := (-6 : Int32)) dX0_clear_80 (by decide) ?_
      refine V_icmp_ne C 89 dX0_clear_82 (by decide) (fun c_12 => ?_) (fun c_12 => ?_)
      · have hm := ite_t c_12 hm
        refine V_iconst C (v := (1 : Int32)) dX0_clear_85 (by decide) ?_
        refine V_goto C 90 dX0_clear_86 (by decide) ?_
        obtain ⟨g_13, hg_13, hm⟩ := bnd hm
        refine V_zast C 3 rfl hg_13 dX0_clear_90 (ws' := [(h0, eO 0 [.ref a_s_given, .ref a_s_numbers, .ref a_s_frees, .ref a_s_uppers, .int s_n, .int s_m, .int s_turnsTaken, .int s_settled]), (a_s_given, eI 25 s_given), (a_s_numbers, eJ 25 s_numbers), (a_s_frees, eZ 4 g_13), (a_s_uppers, eJ 4 s_uppers)]) rfl ?_
        refine V_iload_n C 0 dX0_clear_91 rfl rfl ?_
        refine V_bipush C (v := (-6 : Int32)) dX0_clear_92 (by decide) ?_
        refine V_icmp_eq C 121 dX0_clear_94 (by decide) (fun c_14 => ?_) (fun c_14 => ?_)
        · have hm := ite_t c_14 hm
          refine V_iinc C 2 (v := x1 + (1 : Int32)) (lv' := [(1, .int (x1 + (1 : Int32))), (2, .int r_10), (0, .ref h0)]) dX0_clear_121 rfl rfl (by decide) rfl ?_
          refine V_goto C 51 dX0_clear_124 (by decide) ?_
          refine V_lv [2, 0] rfl ?_
          exact hb (x1 + (1 : Int32)) s_turnsTaken s_settled s_numbers g_13 (Option.some.inj hm).symm
        · have hm := ite_f c_14 hm
          refine V_aload_n C 1 dX0_clear_97 rfl rfl ?_
          refine V_iload_n C 0 dX0_clear_98 rfl rfl ?_
          refine V_aload_n C 1 dX0_clear_99 rfl rfl ?_
          refine V_get C uX0_clear_X0 0 7 rfl rfl (by decide) mX0_clear_4 rfl dX0_clear_100 ?_
          obtain ⟨w_15, hc_16, hm⟩ := bnd hm
          refine V_callVV C (As := [.int r_10, .int s_settled]) (wr := []) (ws2 := [(h0, eO 0 [.ref a_s_given, .ref a_s_numbers, .ref a_s_frees, .ref a_s_uppers, .int s_n, .int s_m, .int s_turnsTaken, .int s_settled]), (a_s_given, eI 25 s_given), (a_s_numbers, eJ 25 w_15), (a_s_frees, eZ 4 g_13), (a_s_uppers, eJ 4 s_uppers)]) (kX0_exchange h0 a_s_given a_s_numbers a_s_frees a_s_uppers s_n s_m s_turnsTaken s_settled s_given s_numbers g_13 s_uppers r_10 s_settled w_15 hc_16) gX0_clear_X0_exchange rfl ⟨rfl, rfl⟩ hdX0_exchange ⟨Nat.le_of_ble_eq_true rfl, Nat.le_of_ble_eq_true rfl⟩ ⟨Nat.zero_le _, Nat.zero_le _⟩ 0 rfl rfl [0, 1, 2, 3, 4] [] [0, 1, 2, 3, 4] rfl rfl ⟨rfl, rfl, rfl⟩ (by decide) rfl rfl (Nat.le_of_ble_eq_true rfl) dX0_clear_103 ?_
          refine V_aload_n C 1 dX0_clear_106 rfl rfl ?_
          refine V_iload_n C 2 dX0_clear_107 rfl rfl ?_
          obtain ⟨w_17, w_18, hc_19, hm⟩ := bd2 hm
          refine V_callVV C (As := [.int x1]) (wr := []) (ws2 := [(h0, eO 0 [.ref a_s_given, .ref a_s_numbers, .ref a_s_frees, .ref a_s_uppers, .int s_n, .int s_m, .int w_17, .int s_settled]), (a_s_given, eI 25 s_given), (a_s_numbers, eJ 25 w_18), (a_s_frees, eZ 4 g_13), (a_s_uppers, eJ 4 s_uppers)]) (kX0_turnAllBehind h0 a_s_given a_s_numbers a_s_frees a_s_uppers s_n s_m s_turnsTaken s_settled s_given w_15 g_13 s_uppers x1 w_17 w_18 hc_19) gX0_clear_X0_turnAllBehind rfl ⟨rfl, rfl⟩ hdX0_turnAllBehind ⟨Nat.le_of_ble_eq_true rfl, Nat.le_of_ble_eq_true rfl⟩ ⟨Nat.zero_le _, Nat.zero_le _⟩ 0 rfl rfl [0, 1, 2, 3, 4] [] [0, 1, 2, 3, 4] rfl rfl ⟨rfl, rfl, rfl⟩ (by decide) rfl rfl (Nat.le_of_ble_eq_true rfl) dX0_clear_108 ?_
          refine V_aload_n C 1 dX0_clear_111 rfl rfl ?_
          refine V_dup C dX0_clear_112 rfl ?_
          refine V_get C uX0_clear_X0 0 7 rfl rfl (by decide) mX0_clear_4 rfl dX0_clear_113 ?_
          refine V_iconst C (v := (1 : Int32)) dX0_clear_116 (by decide) ?_
          refine V_iadd C dX0_clear_117 ?_
          refine V_put C (ty := .int) uX0_clear_X0 tyX0 tyX0_ok nmX0 0 7 rfl rfl (by decide) mX0_clear_4 rfl (by decide +kernel) rfl rfl (Nat.le_of_ble_eq_true rfl) dX0_clear_118 (ws' := [(h0, eO 0 [.ref a_s_given, .ref a_s_numbers, .ref a_s_frees, .ref a_s_uppers, .int s_n, .int s_m, .int w_17, .int (s_settled + (1 : Int32))]), (a_s_given, eI 25 s_given), (a_s_numbers, eJ 25 w_18), (a_s_frees, eZ 4 g_13), (a_s_uppers, eJ 4 s_uppers)]) rfl ?_
          refine V_iinc C 2 (v := x1 + (1 : Int32)) (lv' := [(1, .int (x1 + (1 : Int32))), (2, .int r_10), (0, .ref h0)]) dX0_clear_121 rfl rfl (by decide) rfl ?_
          refine V_goto C 51 dX0_clear_124 (by decide) ?_
          refine V_lv [2, 0] rfl ?_
          exact hb (x1 + (1 : Int32)) w_17 (s_settled + (1 : Int32)) w_18 g_13 (Option.some.inj hm).symm
      · have hm := ite_f c_12 hm
        refine V_iconst C (v := (0 : Int32)) dX0_clear_89 (by decide) ?_
        obtain ⟨g_20, hg_20, hm⟩ := bnd hm
        refine V_zast C 3 rfl hg_20 dX0_clear_90 (ws' := [(h0, eO 0 [.ref a_s_given, .ref a_s_numbers, .ref a_s_frees, .ref a_s_uppers, .int s_n, .int s_m, .int s_turnsTaken, .int s_settled]), (a_s_given, eI 25 s_given), (a_s_numbers, eJ 25 s_numbers), (a_s_frees, eZ 4 g_20), (a_s_uppers, eJ 4 s_uppers)]) rfl ?_
        refine V_iload_n C 0 dX0_clear_91 rfl rfl ?_
        refine V_bipush C (v := (-6 : Int32)) dX0_clear_92 (by decide) ?_
        refine V_icmp_eq C 121 dX0_clear_94 (by decide) (fun c_21 => ?_) (fun c_21 => ?_)
        · have hm := ite_t c_21 hm
          refine V_iinc C 2 (v := x1 + (1 : Int32)) (lv' := [(1, .int (x1 + (1 : Int32))), (2, .int r_10), (0, .ref h0)]) dX0_clear_121 rfl rfl (by decide) rfl ?_
          refine V_goto C 51 dX0_clear_124 (by decide) ?_
          refine V_lv [2, 0] rfl ?_
          exact hb (x1 + (1 : Int32)) s_turnsTaken s_settled s_numbers g_20 (Option.some.inj hm).symm
        · have hm := ite_f c_21 hm
          refine V_aload_n C 1 dX0_clear_97 rfl rfl ?_
          refine V_iload_n C 0 dX0_clear_98 rfl rfl ?_
          refine V_aload_n C 1 dX0_clear_99 rfl rfl ?_
          refine V_get C uX0_clear_X0 0 7 rfl rfl (by decide) mX0_clear_4 rfl dX0_clear_100 ?_
          obtain ⟨w_22, hc_23, hm⟩ := bnd hm
          refine V_callVV C (As := [.int r_10, .int s_settled]) (wr := []) (ws2 := [(h0, eO 0 [.ref a_s_given, .ref a_s_numbers, .ref a_s_frees, .ref a_s_uppers, .int s_n, .int s_m, .int s_turnsTaken, .int s_settled]), (a_s_given, eI 25 s_given), (a_s_numbers, eJ 25 w_22), (a_s_frees, eZ 4 g_20), (a_s_uppers, eJ 4 s_uppers)]) (kX0_exchange h0 a_s_given a_s_numbers a_s_frees a_s_uppers s_n s_m s_turnsTaken s_settled s_given s_numbers g_20 s_uppers r_10 s_settled w_22 hc_23) gX0_clear_X0_exchange rfl ⟨rfl, rfl⟩ hdX0_exchange ⟨Nat.le_of_ble_eq_true rfl, Nat.le_of_ble_eq_true rfl⟩ ⟨Nat.zero_le _, Nat.zero_le _⟩ 0 rfl rfl [0, 1, 2, 3, 4] [] [0, 1, 2, 3, 4] rfl rfl ⟨rfl, rfl, rfl⟩ (by decide) rfl rfl (Nat.le_of_ble_eq_true rfl) dX0_clear_103 ?_
          refine V_aload_n C 1 dX0_clear_106 rfl rfl ?_
          refine V_iload_n C 2 dX0_clear_107 rfl rfl ?_
          obtain ⟨w_24, w_25, hc_26, hm⟩ := bd2 hm
          refine V_callVV C (As := [.int x1]) (wr := []) (ws2 := [(h0, eO 0 [.ref a_s_given, .ref a_s_numbers, .ref a_s_frees, .ref a_s_uppers, .int s_n, .int s_m, .int w_24, .int s_settled]), (a_s_given, eI 25 s_given), (a_s_numbers, eJ 25 w_25), (a_s_frees, eZ 4 g_20), (a_s_uppers, eJ 4 s_uppers)]) (kX0_turnAllBehind h0 a_s_given a_s_numbers a_s_frees a_s_uppers s_n s_m s_turnsTaken s_settled s_given w_22 g_20 s_uppers x1 w_24 w_25 hc_26) gX0_clear_X0_turnAllBehind rfl ⟨rfl, rfl⟩ hdX0_turnAllBehind ⟨Nat.le_of_ble_eq_true rfl, Nat.le_of_ble_eq_true rfl⟩ ⟨Nat.zero_le _, Nat.zero_le _⟩ 0 rfl rfl [0, 1, 2, 3, 4] [] [0, 1, 2, 3, 4] rfl rfl ⟨rfl, rfl, rfl⟩ (by decide) rfl rfl (Nat.le_of_ble_eq_true rfl) dX0_clear_108 ?_
          refine V_aload_n C 1 dX0_clear_111 rfl rfl ?_
          refine V_dup C dX0_clear_112 rfl ?_
          refine V_get C uX0_clear_X0 0 7 rfl rfl (by decide) mX0_clear_4 rfl dX0_clear_113 ?_
          refine V_iconst C (v := (1 : Int32)) dX0_clear_116 (by decide) ?_
          refine V_iadd C dX0_clear_117 ?_
          refine V_put C (ty := .int) uX0_clear_X0 tyX0 tyX0_ok nmX0 0 7 rfl rfl (by decide) mX0_clear_4 rfl (by decide +kernel) rfl rfl (Nat.le_of_ble_eq_true rfl) dX0_clear_118 (ws' := [(h0, eO 0 [.ref a_s_given, .ref a_s_numbers, .ref a_s_frees, .ref a_s_uppers, .int s_n, .int s_m, .int w_24, .int (s_settled + (1 : Int32))]), (a_s_given, eI 25 s_given), (a_s_numbers, eJ 25 w_25), (a_s_frees, eZ 4 g_20), (a_s_uppers, eJ 4 s_uppers)]) rfl ?_
          refine V_iinc C 2 (v := x1 + (1 : Int32)) (lv' := [(1, .int (x1 + (1 : Int32))), (2, .int r_10), (0, .ref h0)]) dX0_clear_121 rfl rfl (by decide) rfl ?_
          refine V_goto C 51 dX0_clear_124 (by decide) ?_
          refine V_lv [2, 0] rfl ?_
          exact hb (x1 + (1 : Int32)) w_24 (s_settled + (1 : Int32)) w_25 g_20 (Option.some.inj hm).symm
    · have hm := ite_f c_9 hm
      refine V_lv [] rfl ?_
      exact he0 s_turnsTaken s_settled s_numbers s_frees (Option.some.inj hm).symm
  · have hm := ite_f c_8 hm
    refine V_lv [] rfl ?_
    exact he0 s_turnsTaken s_settled s_numbers s_frees (Option.some.inj hm).symm
theorem lX0_clear_L51 {Γ : KT} (C : CX Γ cX0_clear 3 wsX0_clear RX0 ({ frames := 4, cells := 0, slots := 0, locals := 94 } : Room)) (h0 : Nat) (a_s_given : Nat) (a_s_numbers : Nat) (a_s_frees : Nat) (a_s_uppers : Nat) (s_n : Int32) (s_m : Int32) (s_given : Nat → Int32) (s_uppers : Nat → Int64) (x1 : Int32) (s_turnsTaken : Int32) (s_settled : Int32) (s_numbers : Nat → Int64) (s_frees : Nat → Int32) (N : Nat) (e : (Int32) × (Int32) × (Nat → Int64) × (Nat → Int32)) (hN : itr (fX0_clear_L51 s_n s_m) N (x1, s_turnsTaken, s_settled, s_numbers, s_frees) = some e) (he0 : (∀ (s_turnsTaken' : Int32) (s_settled' : Int32) (s_numbers' : Nat → Int64) (s_frees' : Nat → Int32), e = (s_turnsTaken', s_settled', s_numbers', s_frees') → V Γ 3 0 0 127 [] [] [(h0, eO 0 [.ref a_s_given, .ref a_s_numbers, .ref a_s_frees, .ref a_s_uppers, .int s_n, .int s_m, .int s_turnsTaken', .int s_settled']), (a_s_given, eI 25 s_given), (a_s_numbers, eJ 25 s_numbers'), (a_s_frees, eZ 4 s_frees'), (a_s_uppers, eJ 4 s_uppers)])) : V Γ 3 0 0 51 [(0, .ref h0), (1, .int x1)] [] [(h0, eO 0 [.ref a_s_given, .ref a_s_numbers, .ref a_s_frees, .ref a_s_uppers, .int s_n, .int s_m, .int s_turnsTaken, .int s_settled]), (a_s_given, eI 25 s_given), (a_s_numbers, eJ 25 s_numbers), (a_s_frees, eZ 4 s_frees), (a_s_uppers, eJ 4 s_uppers)] := by
  induction N generalizing x1 s_turnsTaken s_settled s_numbers s_frees with
  | zero => exact absurd hN (fun h => itr_0 h)
  | succ N ih =>
    obtain ⟨x, hx, hN⟩ := itr_s hN
    refine bX0_clear_L51 C h0 a_s_given a_s_numbers a_s_frees a_s_uppers s_n s_m s_given s_uppers x1 s_turnsTaken s_settled s_numbers s_frees x hx (fun x1' s_turnsTaken' s_settled' s_numbers' s_frees' h => ih x1' s_turnsTaken' s_settled' s_numbers' s_frees' (by subst h; exact hN)) (fun y0 y1 y2 y3 h => he0 y0 y1 y2 y3 (by subst h; exact (Option.some.inj hN).symm))
def fX0_clear_B39 (s_n : Int32) (s_m : Int32) (s_turnsTaken : Int32) (s_settled : Int32) (s_numbers : Nat → Int64) (s_frees : Nat → Int32) : Option ((Int32) × (Int32) × (Nat → Int64) × (Nat → Int32)) := bn4 (itr (fX0_clear_L51 s_n s_m) KF ((0 : Int32), (0 : Int32), (0 : Int32), s_numbers, s_frees)) (fun u_29 u_30 u_31 u_32 => some (u_29, u_30, u_31, u_32))
set_option maxHeartbeats 4000000 in
set_option maxRecDepth 100000 in
theorem jX0_clear_B39 {Γ : KT} (C : CX Γ cX0_clear 3 wsX0_clear RX0 ({ frames := 4, cells := 0, slots := 0, locals := 94 } : Room)) (h0 : Nat) (a_s_given : Nat) (a_s_numbers : Nat) (a_s_frees : Nat) (a_s_uppers : Nat) (s_n : Int32) (s_m : Int32) (s_turnsTaken : Int32) (s_settled : Int32) (s_given : Nat → Int32) (s_numbers : Nat → Int64) (s_frees : Nat → Int32) (s_uppers : Nat → Int64) (o_s_turnsTaken : Int32) (o_s_settled : Int32) (o_s_numbers : Nat → Int64) (o_s_frees : Nat → Int32) (hm : fX0_clear_B39 s_n s_m s_turnsTaken s_settled s_numbers s_frees = some (o_s_turnsTaken, o_s_settled, o_s_numbers, o_s_frees)) (hR : (∀ (pc : Nat) (lv : List (Nat × Value)), decode cX0_clear pc = .ok (.return_, 1) → V Γ 3 0 0 pc lv [] [(h0, eO 0 [.ref a_s_given, .ref a_s_numbers, .ref a_s_frees, .ref a_s_uppers, .int s_n, .int s_m, .int o_s_turnsTaken, .int o_s_settled]), (a_s_given, eI 25 s_given), (a_s_numbers, eJ 25 o_s_numbers), (a_s_frees, eZ 4 o_s_frees), (a_s_uppers, eJ 4 s_uppers)])) : V Γ 3 0 0 39 [(0, .ref h0)] [] [(h0, eO 0 [.ref a_s_given, .ref a_s_numbers, .ref a_s_frees, .ref a_s_uppers, .int s_n, .int s_m, .int s_turnsTaken, .int s_settled]), (a_s_given, eI 25 s_given), (a_s_numbers, eJ 25 s_numbers), (a_s_frees, eZ 4 s_frees), (a_s_uppers, eJ 4 s_uppers)] := by
  unfold fX0_clear_B39 at hm
  refine V_aload_n C 0 dX0_clear_39 rfl rfl ?_
  refine V_iconst C (v := (0 : Int32)) dX0_clear_40 (by decide) ?_
  refine V_put C (ty := .int) uX0_clear_X0 tyX0 tyX0_ok nmX0 0 6 rfl rfl (by decide) mX0_clear_3 rfl (by decide +kernel) rfl rfl (Nat.le_of_ble_eq_true rfl) dX0_clear_41 (ws' := [(h0, eO 0 [.ref a_s_given, .ref a_s_numbers, .ref a_s_frees, .ref a_s_uppers, .int s_n, .int s_m, .int (0 : Int32), .int s_settled]), (a_s_given, eI 25 s_given), (a_s_numbers, eJ 25 s_numbers), (a_s_frees, eZ 4 s_frees), (a_s_uppers, eJ 4 s_uppers)]) rfl ?_
  refine V_aload_n C 0 dX0_clear_44 rfl rfl ?_
  refine V_iconst C (v := (0 : Int32)) dX0_clear_45 (by decide) ?_
  refine V_put C (ty := .int) uX0_clear_X0 tyX0 tyX0_ok nmX0 0 7 rfl rfl (by decide) mX0_clear_4 rfl (by decide +kernel) rfl rfl (Nat.le_of_ble_eq_true rfl) dX0_clear_46 (ws' := [(h0, eO 0 [.ref a_s_given, .ref a_s_numbers, .ref a_s_frees, .ref a_s_uppers, .int s_n, .int s_m, .int (0 : Int32), .int (0 : Int32)]), (a_s_given, eI 25 s_given), (a_s_numbers, eJ 25 s_numbers), (a_s_frees, eZ 4 s_frees), (a_s_uppers, eJ 4 s_uppers)]) rfl ?_
  refine V_iconst C (v := (0 : Int32)) dX0_clear_49 (by decide) ?_
  refine V_istore_n C (lv' := [(1, .int (0 : Int32)), (0, .ref h0)]) dX0_clear_50 rfl (by decide) rfl ?_
  obtain ⟨u_29, u_30, u_31, u_32, hE_28, hm⟩ := bd4 hm
  refine V_lv [1, 0] rfl ?_
  refine lX0_clear_L51 C h0 a_s_given a_s_numbers a_s_frees a_s_uppers s_n s_m s_given s_uppers (0 : Int32) (0 : Int32) (0 : Int32) s_numbers s_frees KF _ hE_28 ?_
  intro q_33 q_34 q_35 q_36 hq
  cases hq
  cases hm
  exact hR _ _ dX0_clear_127
def fX0_clear (s_n : Int32) (s_m : Int32) (s_turnsTaken : Int32) (s_settled : Int32) (s_given : Nat → Int32) (s_numbers : Nat → Int64) (s_frees : Nat → Int32) : Option ((Int32) × (Int32) × (Nat → Int64) × (Nat → Int32)) := Option.bind (itr (fX0_clear_L2 s_given) KF ((0 : Int32), s_numbers)) (fun u_7 => fX0_clear_B39 s_n s_m s_turnsTaken s_settled u_7 s_frees)
set_option maxHeartbeats 4000000 in
set_option maxRecDepth 100000 in
theorem kX0_clear {l : Launch} (h0 : Nat) (a_s_given : Nat) (a_s_numbers : Nat) (a_s_frees : Nat) (a_s_uppers : Nat) (s_n : Int32) (s_m : Int32) (s_turnsTaken : Int32) (s_settled : Int32) (s_given : Nat → Int32) (s_numbers : Nat → Int64) (s_frees : Nat → Int32) (s_uppers : Nat → Int64) (o_s_turnsTaken : Int32) (o_s_settled : Int32) (o_s_numbers : Nat → Int64) (o_s_frees : Nat → Int32) (hm : fX0_clear s_n s_m s_turnsTaken s_settled s_given s_numbers s_frees = some (o_s_turnsTaken, o_s_settled, o_s_numbers, o_s_frees)) : CtV l yX0_clear wsX0_clear ({ frames := 4, cells := 0, slots := 0, locals := 94 } : Room) [.ref h0] [(h0, eO 0 [.ref a_s_given, .ref a_s_numbers, .ref a_s_frees, .ref a_s_uppers, .int s_n, .int s_m, .int s_turnsTaken, .int s_settled]), (a_s_given, eI 25 s_given), (a_s_numbers, eJ 25 s_numbers), (a_s_frees, eZ 4 s_frees), (a_s_uppers, eJ 4 s_uppers)] [(h0, eO 0 [.ref a_s_given, .ref a_s_numbers, .ref a_s_frees, .ref a_s_uppers, .int s_n, .int s_m, .int o_s_turnsTaken, .int o_s_settled]), (a_s_given, eI 25 s_given), (a_s_numbers, eJ 25 o_s_numbers), (a_s_frees, eZ 4 o_s_frees), (a_s_uppers, eJ 4 s_uppers)] := by
  refine CtV_of (cc := cX0_clear) (maxL := 3) (own := RX0) rfl (by decide) rfl (lv0 := [(0, .ref h0)]) rfl (Nat.le_of_ble_eq_true rfl) (fun Γ hL C hR => ?_)
  subst hL
  unfold fX0_clear at hm
  refine V_iconst C (v := (0 : Int32)) dX0_clear_0 (by decide) ?_
  refine V_istore_n C (lv' := [(1, .int (0 : Int32)), (0, .ref h0)]) dX0_clear_1 rfl (by decide) rfl ?_
  obtain ⟨u_7, hE_6, hm⟩ := bnd hm
  refine V_lv [1, 0] rfl ?_
  refine lX0_clear_L2 C h0 a_s_given a_s_numbers a_s_frees a_s_uppers s_n s_m s_turnsTaken s_settled s_given s_frees s_uppers (0 : Int32) s_numbers KF _ hE_6 ?_
  intro q_37 hq
  cases hq
  refine V_lv [0] rfl ?_
  exact jX0_clear_B39 C h0 a_s_given a_s_numbers a_s_frees a_s_uppers s_n s_m s_turnsTaken s_settled s_given u_7 s_frees s_uppers _ _ _ _ hm hR
theorem hdX0_clear : yX0_clear.cls = RX0 ∧ yX0_clear.cls ≠ "java/lang/invoke/MethodHandle" ∧ yX0_clear.cls ≠ "java/lang/invoke/VarHandle" ∧ (parseMethodDescriptor yX0_clear.desc).map (fun d => d.parameters.length) = some 0 := by decide +kernel
-- RodBoard$Clearing.kindOfAnswer()I
theorem uX0_kindOfAnswer_X0 : ∀ w ∈ wsX00, w ∈ wsX0_kindOfAnswer := fun _ h => List.mem_cons_of_mem _ (List.mem_append_right _ h)
theorem mX0_kindOfAnswer_1 : Cond.fieldLink RX0 36 "RodBoard$Clearing" "settled" "I" ∈ wsX0_kindOfAnswer := List.mem_of_getElem? (i := 1) rfl
theorem mX0_kindOfAnswer_2 : Cond.fieldLink RX0 30 "RodBoard$Clearing" "m" "I" ∈ wsX0_kindOfAnswer := List.mem_of_getElem? (i := 2) rfl
theorem mX0_kindOfAnswer_3 : Cond.fieldLink RX0 26 "RodBoard$Clearing" "n" "I" ∈ wsX0_kindOfAnswer := List.mem_of_getElem? (i := 3) rfl
def fX0_kindOfAnswer_L5b (s_n : Int32) (s_m : Int32) (s_numbers : Nat → Int64) (x1 : Int32) : Option (((Int32)) ⊕ ((Unit) ⊕ ((Int32)))) := if x1 < s_m then Option.bind (fX0_cell x1 s_n s_numbers) (fun r_2 => if r_2 = (0 : Int64) then some (Sum.inl (x1 + (1 : Int32))) else some (Sum.inr (Sum.inr (0 : Int32)))) else some (Sum.inr (Sum.inl ()))
def fX0_kindOfAnswer_L5 (s_n : Int32) (s_m : Int32) (s_numbers : Nat → Int64) : ((Int32)) → Option (((Int32)) ⊕ ((Unit) ⊕ ((Int32)))) := fun e => fX0_kindOfAnswer_L5b s_n s_m s_numbers e
set_option maxHeartbeats 4000000 in
set_option maxRecDepth 100000 in
theorem bX0_kindOfAnswer_L5 {Γ : KT} (C : CX Γ cX0_kindOfAnswer 2 wsX0_kindOfAnswer RX0 ({ frames := 1, cells := 0, slots := 0, locals := 23 } : Room)) (h0 : Nat) (a_s_given : Nat) (a_s_numbers : Nat) (a_s_frees : Nat) (a_s_uppers : Nat) (s_n : Int32) (s_m : Int32) (s_turnsTaken : Int32) (s_settled : Int32) (s_given : Nat → Int32) (s_numbers : Nat → Int64) (s_frees : Nat → Int32) (s_uppers : Nat → Int64) (x1 : Int32) (x : ((Int32)) ⊕ ((Unit) ⊕ ((Int32)))) (hm : fX0_kindOfAnswer_L5b s_n s_m s_numbers x1 = some x) (hb : (∀ (x1' : Int32), x = Sum.inl x1' → V Γ 2 0 0 5 [(0, .ref h0), (1, .int x1')] [] [(h0, eO 0 [.ref a_s_given, .ref a_s_numbers, .ref a_s_frees, .ref a_s_uppers, .int s_n, .int s_m, .int s_turnsTaken, .int s_settled]), (a_s_given, eI 25 s_given), (a_s_numbers, eJ 25 s_numbers), (a_s_frees, eZ 4 s_frees), (a_s_uppers, eJ 4 s_uppers)])) (he0 : (∀ (_ : Unit), x = Sum.inr (Sum.inl ()) → V Γ 2 0 0 35 [(0, .ref h0)] [] [(h0, eO 0 [.ref a_s_given, .ref a_s_numbers, .ref a_s_frees, .ref a_s_uppers, .int s_n, .int s_m, .int s_turnsTaken, .int s_settled]), (a_s_given, eI 25 s_given), (a_s_numbers, eJ 25 s_numbers), (a_s_frees, eZ 4 s_frees), (a_s_uppers, eJ 4 s_uppers)])) (her : (∀ (r' : Int32), x = Sum.inr (Sum.inr r') → (∀ (pc : Nat) (lv : List (Nat × Value)), narrow .int (.int r') = .int r' → decode cX0_kindOfAnswer pc = .ok (.ireturn, 1) → V Γ 2 0 0 pc lv [.int r'] [(h0, eO 0 [.ref a_s_given, .ref a_s_numbers, .ref a_s_frees, .ref a_s_uppers, .int s_n, .int s_m, .int s_turnsTaken, .int s_settled]), (a_s_given, eI 25 s_given), (a_s_numbers, eJ 25 s_numbers), (a_s_frees, eZ 4 s_frees), (a_s_uppers, eJ 4 s_uppers)]))) : V Γ 2 0 0 5 [(0, .ref h0), (1, .int x1)] [] [(h0, eO 0 [.ref a_s_given, .ref a_s_numbers, .ref a_s_frees, .ref a_s_uppers, .int s_n, .int s_m, .int s_turnsTaken, .int s_settled]), (a_s_given, eI 25 s_given), (a_s_numbers, eJ 25 s_numbers), (a_s_frees, eZ 4 s_frees), (a_s_uppers, eJ 4 s_uppers)] := by
  unfold fX0_kindOfAnswer_L5b at hm
  refine V_iload_n C 1 dX0_kindOfAnswer_5 rfl rfl ?_
  refine V_aload_n C 0 dX0_kindOfAnswer_6 rfl rfl ?_
  refine V_get C uX0_kindOfAnswer_X0 0 5 rfl rfl (by decide) mX0_kindOfAnswer_2 rfl dX0_kindOfAnswer_7 ?_
  refine V_icmp_ge C 35 dX0_kindOfAnswer_10 (by decide) (fun c_1 => ?_) (fun c_1 => ?_)
  · have hm := ite_t c_1 hm
    refine V_aload_n C 0 dX0_kindOfAnswer_13 rfl rfl ?_
    refine V_iload_n C 1 dX0_kindOfAnswer_14 rfl rfl ?_
    refine V_aload_n C 0 dX0_kindOfAnswer_15 rfl rfl ?_
    refine V_get C uX0_kindOfAnswer_X0 0 4 rfl rfl (by decide) mX0_kindOfAnswer_3 rfl dX0_kindOfAnswer_16 ?_
    obtain ⟨r_2, hc_3, hm⟩ := bnd hm
    refine V_callVL C (As := [.int x1, .int s_n]) (wr := []) (ws2 := [(h0, eO 0 [.ref a_s_given, .ref a_s_numbers, .ref a_s_frees, .ref a_s_uppers, .int s_n, .int s_m, .int s_turnsTaken, .int s_settled]), (a_s_given, eI 25 s_given), (a_s_numbers, eJ 25 s_numbers), (a_s_frees, eZ 4 s_frees), (a_s_uppers, eJ 4 s_uppers)]) (kX0_cell h0 a_s_given a_s_numbers a_s_frees a_s_uppers s_n s_m s_turnsTaken s_settled s_given s_numbers s_frees s_uppers x1 s_n r_2 hc_3) gX0_kindOfAnswer_X0_cell rfl ⟨rfl, rfl⟩ hdX0_cell ⟨Nat.le_of_ble_eq_true rfl, Nat.le_of_ble_eq_true rfl⟩ ⟨Nat.zero_le _, Nat.zero_le _⟩ 0 rfl rfl [0, 1, 2, 3, 4] [] [0, 1, 2, 3, 4] rfl rfl ⟨rfl, rfl, rfl⟩ (by decide) rfl rfl (Nat.le_of_ble_eq_true rfl) dX0_kindOfAnswer_19 ?_
    refine V_lconst C (v := (0 : Int64)) dX0_kindOfAnswer_22 (by decide) ?_
    refine V_lcmp_eq C 29 dX0_kindOfAnswer_23 dX0_kindOfAnswer_24 (by decide) (fun c_4 => ?_) (fun c_4 => ?_)
    · have hm := ite_t c_4 hm
      refine V_iinc C 1 (v := x1 + (1 : Int32)) (lv' := [(1, .int (x1 + (1 : Int32))), (0, .ref h0)]) dX0_kindOfAnswer_29 rfl rfl (by decide) rfl ?_
      refine V_goto C 5 dX0_kindOfAnswer_32 (by decide) ?_
      refine V_lv [1, 0] rfl ?_
      exact hb (x1 + (1 : Int32)) (Option.some.inj hm).symm
    · have hm := ite_f c_4 hm
      refine V_iconst C (v := (0 : Int32)) dX0_kindOfAnswer_27 (by decide) ?_
      exact her (0 : Int32) (Option.some.inj hm).symm _ _ rfl dX0_kindOfAnswer_28
  · have hm := ite_f c_1 hm
    refine V_lv [0] rfl ?_
    exact he0 () (Option.some.inj hm).symm
theorem lX0_kindOfAnswer_L5 {Γ : KT} (C : CX Γ cX0_kindOfAnswer 2 wsX0_kindOfAnswer RX0 ({ frames := 1, cells := 0, slots := 0, locals := 23 } : Room)) (h0 : Nat) (a_s_given : Nat) (a_s_numbers : Nat) (a_s_frees : Nat) (a_s_uppers : Nat) (s_n : Int32) (s_m : Int32) (s_turnsTaken : Int32) (s_settled : Int32) (s_given : Nat → Int32) (s_numbers : Nat → Int64) (s_frees : Nat → Int32) (s_uppers : Nat → Int64) (x1 : Int32) (N : Nat) (e : (Unit) ⊕ ((Int32))) (hN : itr (fX0_kindOfAnswer_L5 s_n s_m s_numbers) N x1 = some e) (he0 : (∀ (_ : Unit), e = Sum.inl () → V Γ 2 0 0 35 [(0, .ref h0)] [] [(h0, eO 0 [.ref a_s_given, .ref a_s_numbers, .ref a_s_frees, .ref a_s_uppers, .int s_n, .int s_m, .int s_turnsTaken, .int s_settled]), (a_s_given, eI 25 s_given), (a_s_numbers, eJ 25 s_numbers), (a_s_frees, eZ 4 s_frees), (a_s_uppers, eJ 4 s_uppers)])) (her : (∀ (r' : Int32), e = Sum.inr r' → (∀ (pc : Nat) (lv : List (Nat × Value)), narrow .int (.int r') = .int r' → decode cX0_kindOfAnswer pc = .ok (.ireturn, 1) → V Γ 2 0 0 pc lv [.int r'] [(h0, eO 0 [.ref a_s_given, .ref a_s_numbers, .ref a_s_frees, .ref a_s_uppers, .int s_n, .int s_m, .int s_turnsTaken, .int s_settled]), (a_s_given, eI 25 s_given), (a_s_numbers, eJ 25 s_numbers), (a_s_frees, eZ 4 s_frees), (a_s_uppers, eJ 4 s_uppers)]))) : V Γ 2 0 0 5 [(0, .ref h0), (1, .int x1)] [] [(h0, eO 0 [.ref a_s_given, .ref a_s_numbers, .ref a_s_frees, .ref a_s_uppers, .int s_n, .int s_m, .int s_turnsTaken, .int s_settled]), (a_s_given, eI 25 s_given), (a_s_numbers, eJ 25 s_numbers), (a_s_frees, eZ 4 s_frees), (a_s_uppers, eJ 4 s_uppers)] := by
  induction N generalizing x1 with
  | zero => exact absurd hN (fun h => itr_0 h)
  | succ N ih =>
    obtain ⟨x, hx, hN⟩ := itr_s hN
    refine bX0_kindOfAnswer_L5 C h0 a_s_given a_s_numbers a_s_frees a_s_uppers s_n s_m s_turnsTaken s_settled s_given s_numbers s_frees s_uppers x1 x hx (fun x1' h => ih x1' (by subst h; exact hN)) (fun _ h => he0 () (by subst h; exact (Option.some.inj hN).symm)) (fun y0 h => her y0 (by subst h; exact (Option.some.inj hN).symm))
def fX0_kindOfAnswer (s_n : Int32) (s_m : Int32) (s_settled : Int32) (s_numbers : Nat → Int64) : Option ((Int32)) := Option.bind (itr (fX0_kindOfAnswer_L5 s_n s_m s_numbers) KF s_settled) (Sum.elim (fun (_ : Unit) => if s_settled = s_n then some (1 : Int32) else some (2 : Int32)) (fun rr_8 => some rr_8))
set_option maxHeartbeats 4000000 in
set_option maxRecDepth 100000 in
theorem kX0_kindOfAnswer {l : Launch} (h0 : Nat) (a_s_given : Nat) (a_s_numbers : Nat) (a_s_frees : Nat) (a_s_uppers : Nat) (s_n : Int32) (s_m : Int32) (s_turnsTaken : Int32) (s_settled : Int32) (s_given : Nat → Int32) (s_numbers : Nat → Int64) (s_frees : Nat → Int32) (s_uppers : Nat → Int64) (r : Int32) (hm : fX0_kindOfAnswer s_n s_m s_settled s_numbers = some r) : CtI l yX0_kindOfAnswer wsX0_kindOfAnswer ({ frames := 1, cells := 0, slots := 0, locals := 23 } : Room) [.ref h0] [(h0, eO 0 [.ref a_s_given, .ref a_s_numbers, .ref a_s_frees, .ref a_s_uppers, .int s_n, .int s_m, .int s_turnsTaken, .int s_settled]), (a_s_given, eI 25 s_given), (a_s_numbers, eJ 25 s_numbers), (a_s_frees, eZ 4 s_frees), (a_s_uppers, eJ 4 s_uppers)] r [(h0, eO 0 [.ref a_s_given, .ref a_s_numbers, .ref a_s_frees, .ref a_s_uppers, .int s_n, .int s_m, .int s_turnsTaken, .int s_settled]), (a_s_given, eI 25 s_given), (a_s_numbers, eJ 25 s_numbers), (a_s_frees, eZ 4 s_frees), (a_s_uppers, eJ 4 s_uppers)] := by
  refine CtI_of (cc := cX0_kindOfAnswer) (maxL := 2) (ty := .int) (own := RX0) rfl (by decide) rfl (lv0 := [(0, .ref h0)]) rfl (Nat.le_of_ble_eq_true rfl) (fun Γ hL C hR => ?_)
  subst hL
  unfold fX0_kindOfAnswer at hm
  refine V_aload_n C 0 dX0_kindOfAnswer_0 rfl rfl ?_
  refine V_get C uX0_kindOfAnswer_X0 0 7 rfl rfl (by decide) mX0_kindOfAnswer_1 rfl dX0_kindOfAnswer_1 ?_
  refine V_istore_n C (lv' := [(1, .int s_settled), (0, .ref h0)]) dX0_kindOfAnswer_4 rfl (by decide) rfl ?_
  obtain ⟨e_5, hE_6, hm⟩ := bnd hm
  refine V_lv [1, 0] rfl ?_
  refine lX0_kindOfAnswer_L5 C h0 a_s_given a_s_numbers a_s_frees a_s_uppers s_n s_m s_turnsTaken s_settled s_given s_numbers s_frees s_uppers s_settled KF _ hE_6 ?_ ?_
  · intro _ hq
    subst hq
    -- exit
    dsimp only [Sum.elim_inl, Sum.elim_inr, un2, un3, un4, un5, un6, un7, un8, un9, un10, un11] at hm
    refine V_aload_n C 0 dX0_kindOfAnswer_35 rfl rfl ?_
    refine V_get C uX0_kindOfAnswer_X0 0 7 rfl rfl (by decide) mX0_kindOfAnswer_1 rfl dX0_kindOfAnswer_36 ?_
    refine V_aload_n C 0 dX0_kindOfAnswer_39 rfl rfl ?_
    refine V_get C uX0_kindOfAnswer_X0 0 4 rfl rfl (by decide) mX0_kindOfAnswer_3 rfl dX0_kindOfAnswer_40 ?_
    refine V_icmp_ne C 50 dX0_kindOfAnswer_43 (by decide) (fun c_7 => ?_) (fun c_7 => ?_)
    · have hm := ite_t c_7 hm
      refine V_iconst C (v := (1 : Int32)) dX0_kindOfAnswer_46 (by decide) ?_
      refine V_goto C 51 dX0_kindOfAnswer_47 (by decide) ?_
      cases hm
      exact hR _ _ rfl dX0_kindOfAnswer_51
    · have hm := ite_f c_7 hm
      refine V_iconst C (v := (2 : Int32)) dX0_kindOfAnswer_50 (by decide) ?_
      cases hm
      exact hR _ _ rfl dX0_kindOfAnswer_51
  · intro rr_8 hq
    subst hq
    dsimp only [Sum.elim_inl, Sum.elim_inr, un2, un3, un4, un5, un6, un7, un8, un9, un10, un11] at hm
    cases hm
    exact hR
theorem hdX0_kindOfAnswer : yX0_kindOfAnswer.cls = RX0 ∧ yX0_kindOfAnswer.cls ≠ "java/lang/invoke/MethodHandle" ∧ yX0_kindOfAnswer.cls ≠ "java/lang/invoke/VarHandle" ∧ (parseMethodDescriptor yX0_kindOfAnswer.desc).map (fun d => d.parameters.length) = some 0 := by decide +kernel
-- RodBoard$Clearing.upper(I)J
theorem uX0_upper_X0 : ∀ w ∈ wsX00, w ∈ wsX0_upper := fun _ h => List.mem_cons_of_mem _ (List.mem_append_right _ h)
theorem mX0_upper_1 : Cond.fieldLink RX0 23 "RodBoard$Clearing" "uppers" "[J" ∈ wsX0_upper := List.mem_of_getElem? (i := 1) rfl
def fX0_upper (p0 : Int32) (s_uppers : Nat → Int64) : Option ((Int64)) := if p0 < (0 : Int32) then some (0 : Int64) else if p0 < (4 : Int32) then Option.bind (rdJ s_uppers 4 p0) (fun v_3 => some v_3) else some (0 : Int64)
set_option maxHeartbeats 4000000 in
set_option maxRecDepth 100000 in
theorem kX0_upper {l : Launch} (h0 : Nat) (a_s_given : Nat) (a_s_numbers : Nat) (a_s_frees : Nat) (a_s_uppers : Nat) (s_n : Int32) (s_m : Int32) (s_turnsTaken : Int32) (s_settled : Int32) (s_given : Nat → Int32) (s_numbers : Nat → Int64) (s_frees : Nat → Int32) (s_uppers : Nat → Int64) (p0 : Int32) (r : Int64) (hm : fX0_upper p0 s_uppers = some r) : CtL l yX0_upper wsX0_upper ({ frames := 0, cells := 0, slots := 0, locals := 0 } : Room) [.ref h0, .int p0] [(h0, eO 0 [.ref a_s_given, .ref a_s_numbers, .ref a_s_frees, .ref a_s_uppers, .int s_n, .int s_m, .int s_turnsTaken, .int s_settled]), (a_s_given, eI 25 s_given), (a_s_numbers, eJ 25 s_numbers), (a_s_frees, eZ 4 s_frees), (a_s_uppers, eJ 4 s_uppers)] r [(h0, eO 0 [.ref a_s_given, .ref a_s_numbers, .ref a_s_frees, .ref a_s_uppers, .int s_n, .int s_m, .int s_turnsTaken, .int s_settled]), (a_s_given, eI 25 s_given), (a_s_numbers, eJ 25 s_numbers), (a_s_frees, eZ 4 s_frees), (a_s_uppers, eJ 4 s_uppers)] := by
  refine CtL_of (cc := cX0_upper) (maxL := 2) (own := RX0) rfl (by decide) rfl (lv0 := [(0, .ref h0), (1, .int p0)]) rfl (Nat.le_of_ble_eq_true rfl) (fun Γ hL C hR => ?_)
  subst hL
  unfold fX0_upper at hm
  refine V_iload_n C 1 dX0_upper_0 rfl rfl ?_
  refine V_if_lt C 22 dX0_upper_1 (by decide) (fun c_1 => ?_) (fun c_1 => ?_)
  · have hm := ite_t c_1 hm
    refine V_lconst C (v := (0 : Int64)) dX0_upper_22 (by decide) ?_
    cases hm
    exact hR _ _ dX0_upper_23
  · have hm := ite_f c_1 hm
    refine V_iload_n C 1 dX0_upper_4 rfl rfl ?_
    refine V_aload_n C 0 dX0_upper_5 rfl rfl ?_
    refine V_get C uX0_upper_X0 0 3 rfl rfl (by decide) mX0_upper_1 rfl dX0_upper_6 ?_
    refine V_alen C (v := (4 : Int32)) 4 1 rfl rfl rfl rfl dX0_upper_9 ?_
    refine V_icmp_ge C 22 dX0_upper_10 (by decide) (fun c_2 => ?_) (fun c_2 => ?_)
    · have hm := ite_t c_2 hm
      refine V_aload_n C 0 dX0_upper_13 rfl rfl ?_
      refine V_get C uX0_upper_X0 0 3 rfl rfl (by decide) mX0_upper_1 rfl dX0_upper_14 ?_
      refine V_iload_n C 1 dX0_upper_17 rfl rfl ?_
      obtain ⟨v_3, hv_3, hm⟩ := bnd hm
      refine V_lald C 4 rfl hv_3 dX0_upper_18 ?_
      refine V_goto C 23 dX0_upper_19 (by decide) ?_
      cases hm
      exact hR _ _ dX0_upper_23
    · have hm := ite_f c_2 hm
      refine V_lconst C (v := (0 : Int64)) dX0_upper_22 (by decide) ?_
      cases hm
      exact hR _ _ dX0_upper_23
theorem hdX0_upper : yX0_upper.cls = RX0 ∧ yX0_upper.cls ≠ "java/lang/invoke/MethodHandle" ∧ yX0_upper.cls ≠ "java/lang/invoke/VarHandle" ∧ (parseMethodDescriptor yX0_upper.desc).map (fun d => d.parameters.length) = some 1 := by decide +kernel
-- RodBoard$Clearing.solve()J
theorem uX0_solve_X0 : ∀ w ∈ wsX00, w ∈ wsX0_solve := fun _ h => List.mem_cons_of_mem _ (List.mem_append_right _ h)
theorem mX0_solve_1 : Cond.fieldLink RX0 26 "RodBoard$Clearing" "n" "I" ∈ wsX0_solve := List.mem_of_getElem? (i := 1) rfl
theorem mX0_solve_2 : Cond.fieldLink RX0 23 "RodBoard$Clearing" "uppers" "[J" ∈ wsX0_solve := List.mem_of_getElem? (i := 2) rfl
theorem mX0_solve_3 : Cond.methodLink RX0 76 Lib.MathLoose.abs_long.x ∈ wsX0_solve := List.mem_of_getElem? (i := 3) rfl
theorem mX0_solve_4 : Cond.static Lib.MathLoose.abs_long.x ∈ wsX0_solve := List.mem_of_getElem? (i := 4) rfl
theorem mX0_solve_5 : Cond.initialized "java/lang/Math" ∈ wsX0_solve := List.mem_of_getElem? (i := 5) rfl
theorem mX0_solve_6 : Cond.code Lib.MathLoose.abs_long.x Lib.MathLoose.abs_long.code 2 (some .long) ∈ wsX0_solve := List.mem_of_getElem? (i := 6) rfl
def fX0_solve_L40b (x1 : Int64) (x3 : Int32) (s_n : Int32) (s_numbers : Nat → Int64) (s_uppers : Nat → Int64) (x4 : Int64) (x6 : Int32) : Option (((Int64) × (Int32)) ⊕ ((Int64))) := if x6 < s_n then Option.bind (fX0_cell x3 x6 s_numbers) (fun r_6 => Option.bind (fX0_upper x6 s_uppers) (fun r_8 => some (Sum.inl (x4 - (r_6 * r_8), x6 + (1 : Int32))))) else some (Sum.inr x4)
def fX0_solve_L40 (x1 : Int64) (x3 : Int32) (s_n : Int32) (s_numbers : Nat → Int64) (s_uppers : Nat → Int64) : ((Int64) × (Int32)) → Option (((Int64) × (Int32)) ⊕ ((Int64))) := fun e => fX0_solve_L40b x1 x3 s_n s_numbers s_uppers e.1 e.2
set_option maxHeartbeats 4000000 in
set_option maxRecDepth 100000 in
theorem bX0_solve_L40 {Γ : KT} (C : CX Γ cX0_solve 13 wsX0_solve RX0 ({ frames := 2, cells := 0, slots := 0, locals := 43 } : Room)) (h0 : Nat) (a_s_given : Nat) (a_s_numbers : Nat) (a_s_frees : Nat) (a_s_uppers : Nat) (x1 : Int64) (x3 : Int32) (s_n : Int32) (s_m : Int32) (s_turnsTaken : Int32) (s_settled : Int32) (s_given : Nat → Int32) (s_numbers : Nat → Int64) (s_frees : Nat → Int32) (s_uppers : Nat → Int64) (x4 : Int64) (x6 : Int32) (x : ((Int64) × (Int32)) ⊕ ((Int64))) (hm : fX0_solve_L40b x1 x3 s_n s_numbers s_uppers x4 x6 = some x) (hb : (∀ (x4' : Int64) (x6' : Int32), x = Sum.inl (x4', x6') → V Γ 13 0 0 40 [(0, .ref h0), (1, .long x1), (3, .int x3), (4, .long x4'), (6, .int x6')] [] [(h0, eO 0 [.ref a_s_given, .ref a_s_numbers, .ref a_s_frees, .ref a_s_uppers, .int s_n, .int s_m, .int s_turnsTaken, .int s_settled]), (a_s_given, eI 25 s_given), (a_s_numbers, eJ 25 s_numbers), (a_s_frees, eZ 4 s_frees), (a_s_uppers, eJ 4 s_uppers)])) (he0 : (∀ (x4' : Int64), x = Sum.inr x4' → V Γ 13 0 0 74 [(0, .ref h0), (1, .long x1), (3, .int x3), (4, .long x4')] [] [(h0, eO 0 [.ref a_s_given, .ref a_s_numbers, .ref a_s_frees, .ref a_s_uppers, .int s_n, .int s_m, .int s_turnsTaken, .int s_settled]), (a_s_given, eI 25 s_given), (a_s_numbers, eJ 25 s_numbers), (a_s_frees, eZ 4 s_frees), (a_s_uppers, eJ 4 s_uppers)])) : V Γ 13 0 0 40 [(0, .ref h0), (1, .long x1), (3, .int x3), (4, .long x4), (6, .int x6)] [] [(h0, eO 0 [.ref a_s_given, .ref a_s_numbers, .ref a_s_frees, .ref a_s_uppers, .int s_n, .int s_m, .int s_turnsTaken, .int s_settled]), (a_s_given, eI 25 s_given), (a_s_numbers, eJ 25 s_numbers), (a_s_frees, eZ 4 s_frees), (a_s_uppers, eJ 4 s_uppers)] := by
  unfold fX0_solve_L40b at hm
  refine V_iload C 4 dX0_solve_40 rfl ?_
  refine V_aload_n C 0 dX0_solve_42 rfl rfl ?_
  refine V_get C uX0_solve_X0 0 4 rfl rfl (by decide) mX0_solve_1 rfl dX0_solve_43 ?_
  refine V_icmp_ge C 74 dX0_solve_46 (by decide) (fun c_5 => ?_) (fun c_5 => ?_)
  · have hm := ite_t c_5 hm
    refine V_lload C 3 dX0_solve_49 rfl ?_
    refine V_aload_n C 0 dX0_solve_51 rfl rfl ?_
    refine V_iload_n C 2 dX0_solve_52 rfl rfl ?_
    refine V_iload C 4 dX0_solve_53 rfl ?_
    obtain ⟨r_6, hc_7, hm⟩ := bnd hm
    refine V_callVL C (As := [.int x3, .int x6]) (wr := []) (ws2 := [(h0, eO 0 [.ref a_s_given, .ref a_s_numbers, .ref a_s_frees, .ref a_s_uppers, .int s_n, .int s_m, .int s_turnsTaken, .int s_settled]), (a_s_given, eI 25 s_given), (a_s_numbers, eJ 25 s_numbers), (a_s_frees, eZ 4 s_frees), (a_s_uppers, eJ 4 s_uppers)]) (kX0_cell h0 a_s_given a_s_numbers a_s_frees a_s_uppers s_n s_m s_turnsTaken s_settled s_given s_numbers s_frees s_uppers x3 x6 r_6 hc_7) gX0_solve_X0_cell rfl ⟨rfl, rfl⟩ hdX0_cell ⟨Nat.le_of_ble_eq_true rfl, Nat.le_of_ble_eq_true rfl⟩ ⟨Nat.zero_le _, Nat.zero_le _⟩ 0 rfl rfl [0, 1, 2, 3, 4] [] [0, 1, 2, 3, 4] rfl rfl ⟨rfl, rfl, rfl⟩ (by decide) rfl rfl (Nat.le_of_ble_eq_true rfl) dX0_solve_55 ?_
    refine V_aload_n C 0 dX0_solve_58 rfl rfl ?_
    refine V_iload C 4 dX0_solve_59 rfl ?_
    obtain ⟨r_8, hc_9, hm⟩ := bnd hm
    refine V_callVL C (As := [.int x6]) (wr := []) (ws2 := [(h0, eO 0 [.ref a_s_given, .ref a_s_numbers, .ref a_s_frees, .ref a_s_uppers, .int s_n, .int s_m, .int s_turnsTaken, .int s_settled]), (a_s_given, eI 25 s_given), (a_s_numbers, eJ 25 s_numbers), (a_s_frees, eZ 4 s_frees), (a_s_uppers, eJ 4 s_uppers)]) (kX0_upper h0 a_s_given a_s_numbers a_s_frees a_s_uppers s_n s_m s_turnsTaken s_settled s_given s_numbers s_frees s_uppers x6 r_8 hc_9) gX0_solve_X0_upper rfl ⟨rfl, rfl⟩ hdX0_upper ⟨Nat.le_of_ble_eq_true rfl, Nat.le_of_ble_eq_true rfl⟩ ⟨Nat.zero_le _, Nat.zero_le _⟩ 0 rfl rfl [0, 1, 2, 3, 4] [] [0, 1, 2, 3, 4] rfl rfl ⟨rfl, rfl, rfl⟩ (by decide) rfl rfl (Nat.le_of_ble_eq_true rfl) dX0_solve_61 ?_
    refine V_lmul C dX0_solve_64 ?_
    refine V_lsub C dX0_solve_65 ?_
    refine V_lstore C (lv' := [(4, .long (x4 - (r_6 * r_8))), (0, .ref h0), (1, .long x1), (3, .int x3), (6, .int x6)]) dX0_solve_66 (by decide) rfl ?_
    refine V_iinc C 4 (v := x6 + (1 : Int32)) (lv' := [(6, .int (x6 + (1 : Int32))), (4, .long (x4 - (r_6 * r_8))), (0, .ref h0), (1, .long x1), (3, .int x3)]) dX0_solve_68 rfl rfl (by decide) rfl ?_
    refine V_goto C 40 dX0_solve_71 (by decide) ?_
    refine V_lv [2, 3, 4, 1, 0] rfl ?_
    exact hb (x4 - (r_6 * r_8)) (x6 + (1 : Int32)) (Option.some.inj hm).symm
  · have hm := ite_f c_5 hm
    refine V_lv [0, 1, 2, 3] rfl ?_
    exact he0 x4 (Option.some.inj hm).symm
theorem lX0_solve_L40 {Γ : KT} (C : CX Γ cX0_solve 13 wsX0_solve RX0 ({ frames := 2, cells := 0, slots := 0, locals := 43 } : Room)) (h0 : Nat) (a_s_given : Nat) (a_s_numbers : Nat) (a_s_frees : Nat) (a_s_uppers : Nat) (x1 : Int64) (x3 : Int32) (s_n : Int32) (s_m : Int32) (s_turnsTaken : Int32) (s_settled : Int32) (s_given : Nat → Int32) (s_numbers : Nat → Int64) (s_frees : Nat → Int32) (s_uppers : Nat → Int64) (x4 : Int64) (x6 : Int32) (N : Nat) (e : (Int64)) (hN : itr (fX0_solve_L40 x1 x3 s_n s_numbers s_uppers) N (x4, x6) = some e) (he0 : (∀ (x4' : Int64), e = x4' → V Γ 13 0 0 74 [(0, .ref h0), (1, .long x1), (3, .int x3), (4, .long x4')] [] [(h0, eO 0 [.ref a_s_given, .ref a_s_numbers, .ref a_s_frees, .ref a_s_uppers, .int s_n, .int s_m, .int s_turnsTaken, .int s_settled]), (a_s_given, eI 25 s_given), (a_s_numbers, eJ 25 s_numbers), (a_s_frees, eZ 4 s_frees), (a_s_uppers, eJ 4 s_uppers)])) : V Γ 13 0 0 40 [(0, .ref h0), (1, .long x1), (3, .int x3), (4, .long x4), (6, .int x6)] [] [(h0, eO 0 [.ref a_s_given, .ref a_s_numbers, .ref a_s_frees, .ref a_s_uppers, .int s_n, .int s_m, .int s_turnsTaken, .int s_settled]), (a_s_given, eI 25 s_given), (a_s_numbers, eJ 25 s_numbers), (a_s_frees, eZ 4 s_frees), (a_s_uppers, eJ 4 s_uppers)] := by
  induction N generalizing x4 x6 with
  | zero => exact absurd hN (fun h => itr_0 h)
  | succ N ih =>
    obtain ⟨x, hx, hN⟩ := itr_s hN
    refine bX0_solve_L40 C h0 a_s_given a_s_numbers a_s_frees a_s_uppers x1 x3 s_n s_m s_turnsTaken s_settled s_given s_numbers s_frees s_uppers x4 x6 x hx (fun x4' x6' h => ih x4' x6' (by subst h; exact hN)) (fun y0 h => he0 y0 (by subst h; exact (Option.some.inj hN).symm))
def fX0_solve_L139b (x1 : Int64) (x3 : Int32) (x10 : Int64) (s_n : Int32) (x12 : Int32) (s_uppers : Nat → Int64) : Option (((Int32) × (Nat → Int64)) ⊕ ((Nat → Int64))) := if x12 < s_n then if x12 < (4 : Int32) then Option.bind (rdJ s_uppers 4 x12) (fun v_24 => Option.bind (wrJ s_uppers 4 x12 (v_24 * x10)) (fun g_25 => some (Sum.inl (x12 + (1 : Int32), g_25)))) else some (Sum.inr s_uppers) else some (Sum.inr s_uppers)
def fX0_solve_L139 (x1 : Int64) (x3 : Int32) (x10 : Int64) (s_n : Int32) : ((Int32) × (Nat → Int64)) → Option (((Int32) × (Nat → Int64)) ⊕ ((Nat → Int64))) := fun e => fX0_solve_L139b x1 x3 x10 s_n e.1 e.2
set_option maxHeartbeats 4000000 in
set_option maxRecDepth 100000 in
theorem bX0_solve_L139 {Γ : KT} (C : CX Γ cX0_solve 13 wsX0_solve RX0 ({ frames := 2, cells := 0, slots := 0, locals := 43 } : Room)) (h0 : Nat) (a_s_given : Nat) (a_s_numbers : Nat) (a_s_frees : Nat) (a_s_uppers : Nat) (x1 : Int64) (x3 : Int32) (x10 : Int64) (s_n : Int32) (s_m : Int32) (s_turnsTaken : Int32) (s_settled : Int32) (s_given : Nat → Int32) (s_numbers : Nat → Int64) (s_frees : Nat → Int32) (x12 : Int32) (s_uppers : Nat → Int64) (x : ((Int32) × (Nat → Int64)) ⊕ ((Nat → Int64))) (hm : fX0_solve_L139b x1 x3 x10 s_n x12 s_uppers = some x) (hb : (∀ (x12' : Int32) (s_uppers' : Nat → Int64), x = Sum.inl (x12', s_uppers') → V Γ 13 0 0 139 [(0, .ref h0), (1, .long x1), (3, .int x3), (10, .long x10), (12, .int x12')] [] [(h0, eO 0 [.ref a_s_given, .ref a_s_numbers, .ref a_s_frees, .ref a_s_uppers, .int s_n, .int s_m, .int s_turnsTaken, .int s_settled]), (a_s_given, eI 25 s_given), (a_s_numbers, eJ 25 s_numbers), (a_s_frees, eZ 4 s_frees), (a_s_uppers, eJ 4 s_uppers')])) (he0 : (∀ (s_uppers' : Nat → Int64), x = Sum.inr s_uppers' → V Γ 13 0 0 176 [(0, .ref h0), (1, .long x1), (3, .int x3), (10, .long x10)] [] [(h0, eO 0 [.ref a_s_given, .ref a_s_numbers, .ref a_s_frees, .ref a_s_uppers, .int s_n, .int s_m, .int s_turnsTaken, .int s_settled]), (a_s_given, eI 25 s_given), (a_s_numbers, eJ 25 s_numbers), (a_s_frees, eZ 4 s_frees), (a_s_uppers, eJ 4 s_uppers')])) : V Γ 13 0 0 139 [(0, .ref h0), (1, .long x1), (3, .int x3), (10, .long x10), (12, .int x12)] [] [(h0, eO 0 [.ref a_s_given, .ref a_s_numbers, .ref a_s_frees, .ref a_s_uppers, .int s_n, .int s_m, .int s_turnsTaken, .int s_settled]), (a_s_given, eI 25 s_given), (a_s_numbers, eJ 25 s_numbers), (a_s_frees, eZ 4 s_frees), (a_s_uppers, eJ 4 s_uppers)] := by
  unfold fX0_solve_L139b at hm
  refine V_iload C 4 dX0_solve_139 rfl ?_
  refine V_aload_n C 0 dX0_solve_141 rfl rfl ?_
  refine V_get C uX0_solve_X0 0 4 rfl rfl (by decide) mX0_solve_1 rfl dX0_solve_142 ?_
  refine V_icmp_ge C 176 dX0_solve_145 (by decide) (fun c_22 => ?_) (fun c_22 => ?_)
  · have hm := ite_t c_22 hm
    refine V_iload C 4 dX0_solve_148 rfl ?_
    refine V_aload_n C 0 dX0_solve_150 rfl rfl ?_
    refine V_get C uX0_solve_X0 0 3 rfl rfl (by decide) mX0_solve_2 rfl dX0_solve_151 ?_
    refine V_alen C (v := (4 : Int32)) 4 1 rfl rfl rfl rfl dX0_solve_154 ?_
    refine V_icmp_ge C 176 dX0_solve_155 (by decide) (fun c_23 => ?_) (fun c_23 => ?_)
    · have hm := ite_t c_23 hm
      refine V_aload_n C 0 dX0_solve_158 rfl rfl ?_
      refine V_get C uX0_solve_X0 0 3 rfl rfl (by decide) mX0_solve_2 rfl dX0_solve_159 ?_
      refine V_iload C 4 dX0_solve_162 rfl ?_
      refine V_dup2_11 C dX0_solve_164 rfl rfl ?_
      obtain ⟨v_24, hv_24, hm⟩ := bnd hm
      refine V_lald C 4 rfl hv_24 dX0_solve_165 ?_
      refine V_lload C 3 dX0_solve_166 rfl ?_
      refine V_lmul C dX0_solve_168 ?_
      obtain ⟨g_25, hg_25, hm⟩ := bnd hm
      refine V_last C 4 rfl hg_25 dX0_solve_169 (ws' := [(h0, eO 0 [.ref a_s_given, .ref a_s_numbers, .ref a_s_frees, .ref a_s_uppers, .int s_n, .int s_m, .int s_turnsTaken, .int s_settled]), (a_s_given, eI 25 s_given), (a_s_numbers, eJ 25 s_numbers), (a_s_frees, eZ 4 s_frees), (a_s_uppers, eJ 4 g_25)]) rfl ?_
      refine V_iinc C 4 (v := x12 + (1 : Int32)) (lv' := [(12, .int (x12 + (1 : Int32))), (0, .ref h0), (1, .long x1), (3, .int x3), (10, .long x10)]) dX0_solve_170 rfl rfl (by decide) rfl ?_
      refine V_goto C 139 dX0_solve_173 (by decide) ?_
      refine V_lv [1, 2, 3, 4, 0] rfl ?_
      exact hb (x12 + (1 : Int32)) g_25 (Option.some.inj hm).symm
    · have hm := ite_f c_23 hm
      refine V_lv [0, 1, 2, 3] rfl ?_
      exact he0 s_uppers (Option.some.inj hm).symm
  · have hm := ite_f c_22 hm
    refine V_lv [0, 1, 2, 3] rfl ?_
    exact he0 s_uppers (Option.some.inj hm).symm
theorem lX0_solve_L139 {Γ : KT} (C : CX Γ cX0_solve 13 wsX0_solve RX0 ({ frames := 2, cells := 0, slots := 0, locals := 43 } : Room)) (h0 : Nat) (a_s_given : Nat) (a_s_numbers : Nat) (a_s_frees : Nat) (a_s_uppers : Nat) (x1 : Int64) (x3 : Int32) (x10 : Int64) (s_n : Int32) (s_m : Int32) (s_turnsTaken : Int32) (s_settled : Int32) (s_given : Nat → Int32) (s_numbers : Nat → Int64) (s_frees : Nat → Int32) (x12 : Int32) (s_uppers : Nat → Int64) (N : Nat) (e : (Nat → Int64)) (hN : itr (fX0_solve_L139 x1 x3 x10 s_n) N (x12, s_uppers) = some e) (he0 : (∀ (s_uppers' : Nat → Int64), e = s_uppers' → V Γ 13 0 0 176 [(0, .ref h0), (1, .long x1), (3, .int x3), (10, .long x10)] [] [(h0, eO 0 [.ref a_s_given, .ref a_s_numbers, .ref a_s_frees, .ref a_s_uppers, .int s_n, .int s_m, .int s_turnsTaken, .int s_settled]), (a_s_given, eI 25 s_given), (a_s_numbers, eJ 25 s_numbers), (a_s_frees, eZ 4 s_frees), (a_s_uppers, eJ 4 s_uppers')])) : V Γ 13 0 0 139 [(0, .ref h0), (1, .long x1), (3, .int x3), (10, .long x10), (12, .int x12)] [] [(h0, eO 0 [.ref a_s_given, .ref a_s_numbers, .ref a_s_frees, .ref a_s_uppers, .int s_n, .int s_m, .int s_turnsTaken, .int s_settled]), (a_s_given, eI 25 s_given), (a_s_numbers, eJ 25 s_numbers), (a_s_frees, eZ 4 s_frees), (a_s_uppers, eJ 4 s_uppers)] := by
  induction N generalizing x12 s_uppers with
  | zero => exact absurd hN (fun h => itr_0 h)
  | succ N ih =>
    obtain ⟨x, hx, hN⟩ := itr_s hN
    refine bX0_solve_L139 C h0 a_s_given a_s_numbers a_s_frees a_s_uppers x1 x3 x10 s_n s_m s_turnsTaken s_settled s_given s_numbers s_frees x12 s_uppers x hx (fun x12' s_uppers' h => ih x12' s_uppers' (by subst h; exact hN)) (fun y0 h => he0 y0 (by subst h; exact (Option.some.inj hN).symm))
def fX0_solve_L9b (s_n : Int32) (s_numbers : Nat → Int64) (x1 : Int64) (x3 : Int32) (s_uppers : Nat → Int64) : Option (((Int64) × (Int32) × (Nat → Int64)) ⊕ (((Int64) × (Nat → Int64)) ⊕ ((Int64) × (Nat → Int64)))) := if x3 < (0 : Int32) then some (Sum.inr (Sum.inl (x1, s_uppers))) else if x3 < (4 : Int32) then Option.bind (fX0_cell x3 s_n s_numbers) (fun r_3 => Option.bind (itr (fX0_solve_L40 x1 x3 s_n s_numbers s_uppers) KF (r_3 * x1, x3 + (1 : Int32))) (fun x4_12 => Option.bind (fX0_cell x3 x3 s_numbers) (fun r_13 => Option.bind (fX5_greatestPart x4_12 r_13) (fun r_15 => if r_15 = (0 : Int64) then some (Sum.inr (Sum.inr ((0 : Int64), s_uppers))) else Option.bind (dvJ (jabs r_13) r_15) (fun v_18 => if r_13 < (0 : Int64) then Option.bind (dvJ (-x4_12) r_15) (fun v_20 => Option.bind (wrJ s_uppers 4 x3 v_20) (fun g_21 => Option.bind (itr (fX0_solve_L139 x1 x3 v_18 s_n) KF (x3 + (1 : Int32), g_21)) (fun u_28 => some (Sum.inl (x1 * v_18, x3 + (-1 : Int32), u_28))))) else Option.bind (dvJ x4_12 r_15) (fun v_30 => Option.bind (wrJ s_uppers 4 x3 v_30) (fun g_31 => Option.bind (itr (fX0_solve_L139 x1 x3 v_18 s_n) KF (x3 + (1 : Int32), g_31)) (fun u_34 => some (Sum.inl (x1 * v_18, x3 + (-1 : Int32), u_34)))))))))) else some (Sum.inr (Sum.inl (x1, s_uppers)))
def fX0_solve_L9 (s_n : Int32) (s_numbers : Nat → Int64) : ((Int64) × (Int32) × (Nat → Int64)) → Option (((Int64) × (Int32) × (Nat → Int64)) ⊕ (((Int64) × (Nat → Int64)) ⊕ ((Int64) × (Nat → Int64)))) := fun e => fX0_solve_L9b s_n s_numbers e.1 e.2.1 e.2.2
set_option maxHeartbeats 4000000 in
set_option maxRecDepth 100000 in
theorem bX0_solve_L9 {Γ : KT} (C : CX Γ cX0_solve 13 wsX0_solve RX0 ({ frames := 2, cells := 0, slots := 0, locals := 43 } : Room)) (h0 : Nat) (a_s_given : Nat) (a_s_numbers : Nat) (a_s_frees : Nat) (a_s_uppers : Nat) (s_n : Int32) (s_m : Int32) (s_turnsTaken : Int32) (s_settled : Int32) (s_given : Nat → Int32) (s_numbers : Nat → Int64) (s_frees : Nat → Int32) (x1 : Int64) (x3 : Int32) (s_uppers : Nat → Int64) (x : ((Int64) × (Int32) × (Nat → Int64)) ⊕ (((Int64) × (Nat → Int64)) ⊕ ((Int64) × (Nat → Int64)))) (hm : fX0_solve_L9b s_n s_numbers x1 x3 s_uppers = some x) (hb : (∀ (x1' : Int64) (x3' : Int32) (s_uppers' : Nat → Int64), x = Sum.inl (x1', x3', s_uppers') → V Γ 13 0 0 9 [(0, .ref h0), (1, .long x1'), (3, .int x3')] [] [(h0, eO 0 [.ref a_s_given, .ref a_s_numbers, .ref a_s_frees, .ref a_s_uppers, .int s_n, .int s_m, .int s_turnsTaken, .int s_settled]), (a_s_given, eI 25 s_given), (a_s_numbers, eJ 25 s_numbers), (a_s_frees, eZ 4 s_frees), (a_s_uppers, eJ 4 s_uppers')])) (he0 : (∀ (x1' : Int64) (s_uppers' : Nat → Int64), x = Sum.inr (Sum.inl (x1', s_uppers')) → V Γ 13 0 0 187 [(1, .long x1')] [] [(h0, eO 0 [.ref a_s_given, .ref a_s_numbers, .ref a_s_frees, .ref a_s_uppers, .int s_n, .int s_m, .int s_turnsTaken, .int s_settled]), (a_s_given, eI 25 s_given), (a_s_numbers, eJ 25 s_numbers), (a_s_frees, eZ 4 s_frees), (a_s_uppers, eJ 4 s_uppers')])) (her : (∀ (r' : Int64) (s_uppers' : Nat → Int64), x = Sum.inr (Sum.inr (r', s_uppers')) → (∀ (pc : Nat) (lv : List (Nat × Value)), decode cX0_solve pc = .ok (.lreturn, 1) → V Γ 13 0 0 pc lv [.long r'] [(h0, eO 0 [.ref a_s_given, .ref a_s_numbers, .ref a_s_frees, .ref a_s_uppers, .int s_n, .int s_m, .int s_turnsTaken, .int s_settled]), (a_s_given, eI 25 s_given), (a_s_numbers, eJ 25 s_numbers), (a_s_frees, eZ 4 s_frees), (a_s_uppers, eJ 4 s_uppers')]))) : V Γ 13 0 0 9 [(0, .ref h0), (1, .long x1), (3, .int x3)] [] [(h0, eO 0 [.ref a_s_given, .ref a_s_numbers, .ref a_s_frees, .ref a_s_uppers, .int s_n, .int s_m, .int s_turnsTaken, .int s_settled]), (a_s_given, eI 25 s_given), (a_s_numbers, eJ 25 s_numbers), (a_s_frees, eZ 4 s_frees), (a_s_uppers, eJ 4 s_uppers)] := by
  unfold fX0_solve_L9b at hm
  refine V_iload_n C 2 dX0_solve_9 rfl rfl ?_
  refine V_if_lt C 187 dX0_solve_10 (by decide) (fun c_1 => ?_) (fun c_1 => ?_)
  · have hm := ite_t c_1 hm
    refine V_lv [1] rfl ?_
    exact he0 x1 s_uppers (Option.some.inj hm).symm
  · have hm := ite_f c_1 hm
    refine V_iload_n C 2 dX0_solve_13 rfl rfl ?_
    refine V_aload_n C 0 dX0_solve_14 rfl rfl ?_
    refine V_get C uX0_solve_X0 0 3 rfl rfl (by decide) mX0_solve_2 rfl dX0_solve_15 ?_
    refine V_alen C (v := (4 : Int32)) 4 1 rfl rfl rfl rfl dX0_solve_18 ?_
    refine V_icmp_ge C 187 dX0_solve_19 (by decide) (fun c_2 => ?_) (fun c_2 => ?_)
    · have hm := ite_t c_2 hm
      refine V_aload_n C 0 dX0_solve_22 rfl rfl ?_
      refine V_iload_n C 2 dX0_solve_23 rfl rfl ?_
      refine V_aload_n C 0 dX0_solve_24 rfl rfl ?_
      refine V_get C uX0_solve_X0 0 4 rfl rfl (by decide) mX0_solve_1 rfl dX0_solve_25 ?_
      obtain ⟨r_3, hc_4, hm⟩ := bnd hm
      refine V_callVL C (As := [.int x3, .int s_n]) (wr := []) (ws2 := [(h0, eO 0 [.ref a_s_given, .ref a_s_numbers, .ref a_s_frees, .ref a_s_uppers, .int s_n, .int s_m, .int s_turnsTaken, .int s_settled]), (a_s_given, eI 25 s_given), (a_s_numbers, eJ 25 s_numbers), (a_s_frees, eZ 4 s_frees), (a_s_uppers, eJ 4 s_uppers)]) (kX0_cell h0 a_s_given a_s_numbers a_s_frees a_s_uppers s_n s_m s_turnsTaken s_settled s_given s_numbers s_frees s_uppers x3 s_n r_3 hc_4) gX0_solve_X0_cell rfl ⟨rfl, rfl⟩ hdX0_cell ⟨Nat.le_of_ble_eq_true rfl, Nat.le_of_ble_eq_true rfl⟩ ⟨Nat.zero_le _, Nat.zero_le _⟩ 0 rfl rfl [0, 1, 2, 3, 4] [] [0, 1, 2, 3, 4] rfl rfl ⟨rfl, rfl, rfl⟩ (by decide) rfl rfl (Nat.le_of_ble_eq_true rfl) dX0_solve_28 ?_
      refine V_lload_n C 1 dX0_solve_31 rfl rfl ?_
      refine V_lmul C dX0_solve_32 ?_
      refine V_lstore C (lv' := [(4, .long (r_3 * x1)), (0, .ref h0), (1, .long x1), (3, .int x3)]) dX0_solve_33 (by decide) rfl ?_
      refine V_iload_n C 3 dX0_solve_35 rfl rfl ?_
      refine V_iconst C (v := (1 : Int32)) dX0_solve_36 (by decide) ?_
      refine V_iadd C dX0_solve_37 ?_
      refine V_istore C (lv' := [(6, .int (x3 + (1 : Int32))), (4, .long (r_3 * x1)), (0, .ref h0), (1, .long x1), (3, .int x3)]) dX0_solve_38 (by decide) rfl ?_
      obtain ⟨x4_12, hE_11, hm⟩ := bnd hm
      refine V_lv [2, 3, 4, 1, 0] rfl ?_
      refine lX0_solve_L40 C h0 a_s_given a_s_numbers a_s_frees a_s_uppers x1 x3 s_n s_m s_turnsTaken s_settled s_given s_numbers s_frees s_uppers (r_3 * x1) (x3 + (1 : Int32)) KF _ hE_11 ?_
      intro q_36 hq
      cases hq
      refine V_aload_n C 0 dX0_solve_74 rfl rfl ?_
      refine V_iload_n C 2 dX0_solve_75 rfl rfl ?_
      refine V_iload_n C 2 dX0_solve_76 rfl rfl ?_
      obtain ⟨r_13, hc_14, hm⟩ := bnd hm
      refine V_callVL C (As := [.int x3, .int x3]) (wr := []) (ws2 := [(h0, eO 0 [.ref a_s_given, .ref a_s_numbers, .ref a_s_frees, .ref a_s_uppers, .int s_n, .int s_m, .int s_turnsTaken, .int s_settled]), (a_s_given, eI 25 s_given), (a_s_numbers, eJ 25 s_numbers), (a_s_frees, eZ 4 s_frees), (a_s_uppers, eJ 4 s_uppers)]) (kX0_cell h0 a_s_given a_s_numbers a_s_frees a_s_uppers s_n s_m s_turnsTaken s_settled s_given s_numbers s_frees s_uppers x3 x3 r_13 hc_14) gX0_solve_X0_cell rfl ⟨rfl, rfl⟩ hdX0_cell ⟨Nat.le_of_ble_eq_true rfl, Nat.le_of_ble_eq_true rfl⟩ ⟨Nat.zero_le _, Nat.zero_le _⟩ 0 rfl rfl [0, 1, 2, 3, 4] [] [0, 1, 2, 3, 4] rfl rfl ⟨rfl, rfl, rfl⟩ (by decide) rfl rfl (Nat.le_of_ble_eq_true rfl) dX0_solve_77 ?_
      refine V_lstore C (lv' := [(6, .long r_13), (0, .ref h0), (1, .long x1), (3, .int x3), (4, .long x4_12)]) dX0_solve_80 (by decide) rfl ?_
      refine V_lload C 4 dX0_solve_82 rfl ?_
      refine V_lload C 0 dX0_solve_84 rfl ?_
      obtain ⟨r_15, hc_16, hm⟩ := bnd hm
      refine V_callSL C (As := [.long x4_12, .long r_13]) (wr := [(h0, eO 0 [.ref a_s_given, .ref a_s_numbers, .ref a_s_frees, .ref a_s_uppers, .int s_n, .int s_m, .int s_turnsTaken, .int s_settled]), (a_s_given, eI 25 s_given), (a_s_numbers, eJ 25 s_numbers), (a_s_frees, eZ 4 s_frees), (a_s_uppers, eJ 4 s_uppers)]) (ws2 := [(h0, eO 0 [.ref a_s_given, .ref a_s_numbers, .ref a_s_frees, .ref a_s_uppers, .int s_n, .int s_m, .int s_turnsTaken, .int s_settled]), (a_s_given, eI 25 s_given), (a_s_numbers, eJ 25 s_numbers), (a_s_frees, eZ 4 s_frees), (a_s_uppers, eJ 4 s_uppers)]) (kX5_greatestPart x4_12 r_13 r_15 hc_16) gX0_solve_X5_greatestPart rfl ⟨rfl, rfl⟩ hdX5_greatestPart ⟨Nat.le_of_ble_eq_true rfl, Nat.le_of_ble_eq_true rfl⟩ ⟨Nat.zero_le _, Nat.zero_le _⟩ [] [0, 1, 2, 3, 4] [0, 1, 2, 3, 4] rfl rfl ⟨rfl, rfl, rfl⟩ (by decide) rfl rfl (Nat.le_of_ble_eq_true rfl) dX0_solve_86 ?_
      refine V_lstore C (lv' := [(8, .long r_15), (6, .long r_13), (0, .ref h0), (1, .long x1), (3, .int x3), (4, .long x4_12)]) dX0_solve_89 (by decide) rfl ?_
      refine V_lload C 0 dX0_solve_91 rfl ?_
      refine V_lconst C (v := (0 : Int64)) dX0_solve_93 (by decide) ?_
      refine V_lcmp_ne C 100 dX0_solve_94 dX0_solve_95 (by decide) (fun c_17 => ?_) (fun c_17 => ?_)
      · have hm := ite_t c_17 hm
        refine V_lconst C (v := (0 : Int64)) dX0_solve_98 (by decide) ?_
        exact her (0 : Int64) s_uppers (Option.some.inj hm).symm _ _ dX0_solve_99
      · have hm := ite_f c_17 hm
        refine V_lload C 1 dX0_solve_100 rfl ?_
        refine V_abs C mX0_solve_3 mX0_solve_4 mX0_solve_5 mX0_solve_6 ⟨Nat.le_of_ble_eq_true rfl, Nat.le_of_ble_eq_true rfl⟩ ⟨Nat.zero_le _, Nat.zero_le _⟩ dX0_solve_102 ?_
        refine V_lload C 0 dX0_solve_105 rfl ?_
        obtain ⟨v_18, hv_18, hm⟩ := bnd hm
        refine V_ldiv C hv_18 dX0_solve_107 ?_
        refine V_lstore C (lv' := [(10, .long v_18), (8, .long r_15), (6, .long r_13), (0, .ref h0), (1, .long x1), (3, .int x3), (4, .long x4_12)]) dX0_solve_108 (by decide) rfl ?_
        refine V_aload_n C 3 dX0_solve_110 rfl rfl ?_
        refine V_get C uX0_solve_X0 0 3 rfl rfl (by decide) mX0_solve_2 rfl dX0_solve_111 ?_
        refine V_iload_n C 5 dX0_solve_114 rfl rfl ?_
        refine V_lload C 2 dX0_solve_115 rfl ?_
        refine V_lconst C (v := (0 : Int64)) dX0_solve_117 (by decide) ?_
        refine V_lcmp_ge C 128 dX0_solve_118 dX0_solve_119 (by decide) (fun c_19 => ?_) (fun c_19 => ?_)
        · have hm := ite_t c_19 hm
          refine V_lload C 6 dX0_solve_122 rfl ?_
          refine V_lneg C dX0_solve_124 ?_
          refine V_goto C 130 dX0_solve_125 (by decide) ?_
          refine V_lload C 1 dX0_solve_130 rfl ?_
          obtain ⟨v_20, hv_20, hm⟩ := bnd hm
          refine V_ldiv C hv_20 dX0_solve_132 ?_
          obtain ⟨g_21, hg_21, hm⟩ := bnd hm
          refine V_last C 4 rfl hg_21 dX0_solve_133 (ws' := [(h0, eO 0 [.ref a_s_given, .ref a_s_numbers, .ref a_s_frees, .ref a_s_uppers, .int s_n, .int s_m, .int s_turnsTaken, .int s_settled]), (a_s_given, eI 25 s_given), (a_s_numbers, eJ 25 s_numbers), (a_s_frees, eZ 4 s_frees), (a_s_uppers, eJ 4 g_21)]) rfl ?_
          refine V_iload_n C 5 dX0_solve_134 rfl rfl ?_
          refine V_iconst C (v := (1 : Int32)) dX0_solve_135 (by decide) ?_
          refine V_iadd C dX0_solve_136 ?_
          refine V_istore C (lv' := [(12, .int (x3 + (1 : Int32))), (10, .long v_18), (8, .long r_15), (6, .long r_13), (0, .ref h0), (1, .long x1), (3, .int x3), (4, .long x4_12)]) dX0_solve_137 (by decide) rfl ?_
          obtain ⟨u_28, hE_27, hm⟩ := bnd hm
          refine V_lv [4, 5, 6, 1, 0] rfl ?_
          refine lX0_solve_L139 C h0 a_s_given a_s_numbers a_s_frees a_s_uppers x1 x3 v_18 s_n s_m s_turnsTaken s_settled s_given s_numbers s_frees (x3 + (1 : Int32)) g_21 KF _ hE_27 ?_
          intro q_29 hq
          cases hq
          refine V_lload_n C 1 dX0_solve_176 rfl rfl ?_
          refine V_lload C 3 dX0_solve_177 rfl ?_
          refine V_lmul C dX0_solve_179 ?_
          refine V_lstore_n C (lv' := [(1, .long (x1 * v_18)), (0, .ref h0), (3, .int x3), (10, .long v_18)]) dX0_solve_180 rfl (by decide) rfl ?_
          refine V_iinc C 2 (v := x3 + (-1 : Int32)) (lv' := [(3, .int (x3 + (-1 : Int32))), (1, .long (x1 * v_18)), (0, .ref h0), (10, .long v_18)]) dX0_solve_181 rfl rfl (by decide) rfl ?_
          refine V_goto C 9 dX0_solve_184 (by decide) ?_
          refine V_lv [2, 1, 0] rfl ?_
          exact hb (x1 * v_18) (x3 + (-1 : Int32)) u_28 (Option.some.inj hm).symm
        · have hm := ite_f c_19 hm
          refine V_lload C 6 dX0_solve_128 rfl ?_
          refine V_lload C 1 dX0_solve_130 rfl ?_
          obtain ⟨v_30, hv_30, hm⟩ := bnd hm
          refine V_ldiv C hv_30 dX0_solve_132 ?_
          obtain ⟨g_31, hg_31, hm⟩ := bnd hm
          refine V_last C 4 rfl hg_31 dX0_solve_133 (ws' := [(h0, eO 0 [.ref a_s_given, .ref a_s_numbers, .ref a_s_frees, .ref a_s_uppers, .int s_n, .int s_m, .int s_turnsTaken, .int s_settled]), (a_s_given, eI 25 s_given), (a_s_numbers, eJ 25 s_numbers), (a_s_frees, eZ 4 s_frees), (a_s_uppers, eJ 4 g_31)]) rfl ?_
          refine V_iload_n C 5 dX0_solve_134 rfl rfl ?_
          refine V_iconst C (v := (1 : Int32)) dX0_solve_135 (by decide) ?_
          refine V_iadd C dX0_solve_136 ?_
          refine V_istore C (lv' := [(12, .int (x3 + (1 : Int32))), (10, .long v_18), (8, .long r_15), (6, .long r_13), (0, .ref h0), (1, .long x1), (3, .int x3), (4, .long x4_12)]) dX0_solve_137 (by decide) rfl ?_
          obtain ⟨u_34, hE_33, hm⟩ := bnd hm
          refine V_lv [4, 5, 6, 1, 0] rfl ?_
          refine lX0_solve_L139 C h0 a_s_given a_s_numbers a_s_frees a_s_uppers x1 x3 v_18 s_n s_m s_turnsTaken s_settled s_given s_numbers s_frees (x3 + (1 : Int32)) g_31 KF _ hE_33 ?_
          intro q_35 hq
          cases hq
          refine V_lload_n C 1 dX0_solve_176 rfl rfl ?_
          refine V_lload C 3 dX0_solve_177 rfl ?_
          refine V_lmul C dX0_solve_179 ?_
          refine V_lstore_n C (lv' := [(1, .long (x1 * v_18)), (0, .ref h0), (3, .int x3), (10, .long v_18)]) dX0_solve_180 rfl (by decide) rfl ?_
          refine V_iinc C 2 (v := x3 + (-1 : Int32)) (lv' := [(3, .int (x3 + (-1 : Int32))), (1, .long (x1 * v_18)), (0, .ref h0), (10, .long v_18)]) dX0_solve_181 rfl rfl (by decide) rfl ?_
          refine V_goto C 9 dX0_solve_184 (by decide) ?_
          refine V_lv [2, 1, 0] rfl ?_
          exact hb (x1 * v_18) (x3 + (-1 : Int32)) u_34 (Option.some.inj hm).symm
    · have hm := ite_f c_2 hm
      refine V_lv [1] rfl ?_
      exact he0 x1 s_uppers (Option.some.inj hm).symm
theorem lX0_solve_L9 {Γ : KT} (C : CX Γ cX0_solve 13 wsX0_solve RX0 ({ frames := 2, cells := 0, slots := 0, locals := 43 } : Room)) (h0 : Nat) (a_s_given : Nat) (a_s_numbers : Nat) (a_s_frees : Nat) (a_s_uppers : Nat) (s_n : Int32) (s_m : Int32) (s_turnsTaken : Int32) (s_settled : Int32) (s_given : Nat → Int32) (s_numbers : Nat → Int64) (s_frees : Nat → Int32) (x1 : Int64) (x3 : Int32) (s_uppers : Nat → Int64) (N : Nat) (e : ((Int64) × (Nat → Int64)) ⊕ ((Int64) × (Nat → Int64))) (hN : itr (fX0_solve_L9 s_n s_numbers) N (x1, x3, s_uppers) = some e) (he0 : (∀ (x1' : Int64) (s_uppers' : Nat → Int64), e = Sum.inl (x1', s_uppers') → V Γ 13 0 0 187 [(1, .long x1')] [] [(h0, eO 0 [.ref a_s_given, .ref a_s_numbers, .ref a_s_frees, .ref a_s_uppers, .int s_n, .int s_m, .int s_turnsTaken, .int s_settled]), (a_s_given, eI 25 s_given), (a_s_numbers, eJ 25 s_numbers), (a_s_frees, eZ 4 s_frees), (a_s_uppers, eJ 4 s_uppers')])) (her : (∀ (r' : Int64) (s_uppers' : Nat → Int64), e = Sum.inr (r', s_uppers') → (∀ (pc : Nat) (lv : List (Nat × Value)), decode cX0_solve pc = .ok (.lreturn, 1) → V Γ 13 0 0 pc lv [.long r'] [(h0, eO 0 [.ref a_s_given, .ref a_s_numbers, .ref a_s_frees, .ref a_s_uppers, .int s_n, .int s_m, .int s_turnsTaken, .int s_settled]), (a_s_given, eI 25 s_given), (a_s_numbers, eJ 25 s_numbers), (a_s_frees, eZ 4 s_frees), (a_s_uppers, eJ 4 s_uppers')]))) : V Γ 13 0 0 9 [(0, .ref h0), (1, .long x1), (3, .int x3)] [] [(h0, eO 0 [.ref a_s_given, .ref a_s_numbers, .ref a_s_frees, .ref a_s_uppers, .int s_n, .int s_m, .int s_turnsTaken, .int s_settled]), (a_s_given, eI 25 s_given), (a_s_numbers, eJ 25 s_numbers), (a_s_frees, eZ 4 s_frees), (a_s_uppers, eJ 4 s_uppers)] := by
  induction N generalizing x1 x3 s_uppers with
  | zero => exact absurd hN (fun h => itr_0 h)
  | succ N ih =>
    obtain ⟨x, hx, hN⟩ := itr_s hN
    refine bX0_solve_L9 C h0 a_s_given a_s_numbers a_s_frees a_s_uppers s_n s_m s_turnsTaken s_settled s_given s_numbers s_frees x1 x3 s_uppers x hx (fun x1' x3' s_uppers' h => ih x1' x3' s_uppers' (by subst h; exact hN)) (fun y0 y1 h => he0 y0 y1 (by subst h; exact (Option.some.inj hN).symm)) (fun y0 y1 h => her y0 y1 (by subst h; exact (Option.some.inj hN).symm))
def fX0_solve (s_n : Int32) (s_numbers : Nat → Int64) (s_uppers : Nat → Int64) : Option ((Int64) × (Nat → Int64)) := Option.bind (itr (fX0_solve_L9 s_n s_numbers) KF ((1 : Int64), s_n - (1 : Int32), s_uppers)) (Sum.elim (un2 (fun x1_39 u_40 => some (x1_39, u_40))) (un2 (fun rr_41 rr_42 => some (rr_41, rr_42))))
set_option maxHeartbeats 4000000 in
set_option maxRecDepth 100000 in
theorem kX0_solve {l : Launch} (h0 : Nat) (a_s_given : Nat) (a_s_numbers : Nat) (a_s_frees : Nat) (a_s_uppers : Nat) (s_n : Int32) (s_m : Int32) (s_turnsTaken : Int32) (s_settled : Int32) (s_given : Nat → Int32) (s_numbers : Nat → Int64) (s_frees : Nat → Int32) (s_uppers : Nat → Int64) (r : Int64) (o_s_uppers : Nat → Int64) (hm : fX0_solve s_n s_numbers s_uppers = some (r, o_s_uppers)) : CtL l yX0_solve wsX0_solve ({ frames := 2, cells := 0, slots := 0, locals := 43 } : Room) [.ref h0] [(h0, eO 0 [.ref a_s_given, .ref a_s_numbers, .ref a_s_frees, .ref a_s_uppers, .int s_n, .int s_m, .int s_turnsTaken, .int s_settled]), (a_s_given, eI 25 s_given), (a_s_numbers, eJ 25 s_numbers), (a_s_frees, eZ 4 s_frees), (a_s_uppers, eJ 4 s_uppers)] r [(h0, eO 0 [.ref a_s_given, .ref a_s_numbers, .ref a_s_frees, .ref a_s_uppers, .int s_n, .int s_m, .int s_turnsTaken, .int s_settled]), (a_s_given, eI 25 s_given), (a_s_numbers, eJ 25 s_numbers), (a_s_frees, eZ 4 s_frees), (a_s_uppers, eJ 4 o_s_uppers)] := by
  refine CtL_of (cc := cX0_solve) (maxL := 13) (own := RX0) rfl (by decide) rfl (lv0 := [(0, .ref h0)]) rfl (Nat.le_of_ble_eq_true rfl) (fun Γ hL C hR => ?_)
  subst hL
  unfold fX0_solve at hm
  refine V_lconst C (v := (1 : Int64)) dX0_solve_0 (by decide) ?_
  refine V_lstore_n C (lv' := [(1, .long (1 : Int64)), (0, .ref h0)]) dX0_solve_1 rfl (by decide) rfl ?_
  refine V_aload_n C 1 dX0_solve_2 rfl rfl ?_
  refine V_get C uX0_solve_X0 0 4 rfl rfl (by decide) mX0_solve_1 rfl dX0_solve_3 ?_
  refine V_iconst C (v := (1 : Int32)) dX0_solve_6 (by decide) ?_
  refine V_isub C dX0_solve_7 ?_
  refine V_istore_n C (lv' := [(3, .int (s_n - (1 : Int32))), (1, .long (1 : Int64)), (0, .ref h0)]) dX0_solve_8 rfl (by decide) rfl ?_
  obtain ⟨e_37, hE_38, hm⟩ := bnd hm
  refine V_lv [2, 1, 0] rfl ?_
  refine lX0_solve_L9 C h0 a_s_given a_s_numbers a_s_frees a_s_uppers s_n s_m s_turnsTaken s_settled s_given s_numbers s_frees (1 : Int64) (s_n - (1 : Int32)) s_uppers KF _ hE_38 ?_ ?_
  · intro x1_39 u_40 hq
    subst hq
    -- exit
    dsimp only [Sum.elim_inl, Sum.elim_inr, un2, un3, un4, un5, un6, un7, un8, un9, un10, un11] at hm
    refine V_lload_n C 0 dX0_solve_187 rfl rfl ?_
    cases hm
    exact hR _ _ dX0_solve_188
  · intro rr_41 rr_42 hq
    subst hq
    dsimp only [Sum.elim_inl, Sum.elim_inr, un2, un3, un4, un5, un6, un7, un8, un9, un10, un11] at hm
    cases hm
    exact hR
theorem hdX0_solve : yX0_solve.cls = RX0 ∧ yX0_solve.cls ≠ "java/lang/invoke/MethodHandle" ∧ yX0_solve.cls ≠ "java/lang/invoke/VarHandle" ∧ (parseMethodDescriptor yX0_solve.desc).map (fun d => d.parameters.length) = some 0 := by decide +kernel
-- RodBoard$Clearing.fraction(II)J
def fX0_fraction (p0 : Int32) (p1 : Int32) (s_n : Int32) (s_numbers : Nat → Int64) (s_uppers : Nat → Int64) : Option ((Int64) × (Nat → Int64)) := bn2 (fX0_solve s_n s_numbers s_uppers) (fun r_1 w_2 => Option.bind (fX0_upper p0 w_2) (fun r_4 => Option.bind (fX5_greatestPart r_4 r_1) (fun r_6 => if r_6 = (0 : Int64) then some ((0 : Int64), w_2) else if p1 = (0 : Int32) then Option.bind (dvJ r_4 r_6) (fun v_10 => some (v_10, w_2)) else Option.bind (dvJ r_1 r_6) (fun v_11 => some (v_11, w_2)))))
set_option maxHeartbeats 4000000 in
set_option maxRecDepth 100000 in
theorem kX0_fraction {l : Launch} (h0 : Nat) (a_s_given : Nat) (a_s_numbers : Nat) (a_s_frees : Nat) (a_s_uppers : Nat) (s_n : Int32) (s_m : Int32) (s_turnsTaken : Int32) (s_settled : Int32) (s_given : Nat → Int32) (s_numbers : Nat → Int64) (s_frees : Nat → Int32) (s_uppers : Nat → Int64) (p0 : Int32) (p1 : Int32) (r : Int64) (o_s_uppers : Nat → Int64) (hm : fX0_fraction p0 p1 s_n s_numbers s_uppers = some (r, o_s_uppers)) : CtL l yX0_fraction wsX0_fraction ({ frames := 3, cells := 0, slots := 0, locals := 75 } : Room) [.ref h0, .int p0, .int p1] [(h0, eO 0 [.ref a_s_given, .ref a_s_numbers, .ref a_s_frees, .ref a_s_uppers, .int s_n, .int s_m, .int s_turnsTaken, .int s_settled]), (a_s_given, eI 25 s_given), (a_s_numbers, eJ 25 s_numbers), (a_s_frees, eZ 4 s_frees), (a_s_uppers, eJ 4 s_uppers)] r [(h0, eO 0 [.ref a_s_given, .ref a_s_numbers, .ref a_s_frees, .ref a_s_uppers, .int s_n, .int s_m, .int s_turnsTaken, .int s_settled]), (a_s_given, eI 25 s_given), (a_s_numbers, eJ 25 s_numbers), (a_s_frees, eZ 4 s_frees), (a_s_uppers, eJ 4 o_s_uppers)] := by
  refine CtL_of (cc := cX0_fraction) (maxL := 9) (own := RX0) rfl (by decide) rfl (lv0 := [(0, .ref h0), (1, .int p0), (2, .int p1)]) rfl (Nat.le_of_ble_eq_true rfl) (fun Γ hL C hR => ?_)
  subst hL
  unfold fX0_fraction at hm
  refine V_aload_n C 0 dX0_fraction_0 rfl rfl ?_
  obtain ⟨r_1, w_2, hc_3, hm⟩ := bd2 hm
  refine V_callVL C (As := []) (wr := []) (ws2 := [(h0, eO 0 [.ref a_s_given, .ref a_s_numbers, .ref a_s_frees, .ref a_s_uppers, .int s_n, .int s_m, .int s_turnsTaken, .int s_settled]), (a_s_given, eI 25 s_given), (a_s_numbers, eJ 25 s_numbers), (a_s_frees, eZ 4 s_frees), (a_s_uppers, eJ 4 w_2)]) (kX0_solve h0 a_s_given a_s_numbers a_s_frees a_s_uppers s_n s_m s_turnsTaken s_settled s_given s_numbers s_frees s_uppers r_1 w_2 hc_3) gX0_fraction_X0_solve rfl ⟨rfl, rfl⟩ hdX0_solve ⟨Nat.le_of_ble_eq_true rfl, Nat.le_of_ble_eq_true rfl⟩ ⟨Nat.zero_le _, Nat.zero_le _⟩ 0 rfl rfl [0, 1, 2, 3, 4] [] [0, 1, 2, 3, 4] rfl rfl ⟨rfl, rfl, rfl⟩ (by decide) rfl rfl (Nat.le_of_ble_eq_true rfl) dX0_fraction_1 ?_
  refine V_lstore_n C (lv' := [(3, .long r_1), (0, .ref h0), (1, .int p0), (2, .int p1)]) dX0_fraction_4 rfl (by decide) rfl ?_
  refine V_aload_n C 1 dX0_fraction_5 rfl rfl ?_
  refine V_iload_n C 2 dX0_fraction_6 rfl rfl ?_
  obtain ⟨r_4, hc_5, hm⟩ := bnd hm
  refine V_callVL C (As := [.int p0]) (wr := []) (ws2 := [(h0, eO 0 [.ref a_s_given, .ref a_s_numbers, .ref a_s_frees, .ref a_s_uppers, .int s_n, .int s_m, .int s_turnsTaken, .int s_settled]), (a_s_given, eI 25 s_given), (a_s_numbers, eJ 25 s_numbers), (a_s_frees, eZ 4 s_frees), (a_s_uppers, eJ 4 w_2)]) (kX0_upper h0 a_s_given a_s_numbers a_s_frees a_s_uppers s_n s_m s_turnsTaken s_settled s_given s_numbers s_frees w_2 p0 r_4 hc_5) gX0_fraction_X0_upper rfl ⟨rfl, rfl⟩ hdX0_upper ⟨Nat.le_of_ble_eq_true rfl, Nat.le_of_ble_eq_true rfl⟩ ⟨Nat.zero_le _, Nat.zero_le _⟩ 0 rfl rfl [0, 1, 2, 3, 4] [] [0, 1, 2, 3, 4] rfl rfl ⟨rfl, rfl, rfl⟩ (by decide) rfl rfl (Nat.le_of_ble_eq_true rfl) dX0_fraction_7 ?_
  refine V_lstore C (lv' := [(5, .long r_4), (3, .long r_1), (0, .ref h0), (1, .int p0), (2, .int p1)]) dX0_fraction_10 (by decide) rfl ?_
  refine V_lload C 0 dX0_fraction_12 rfl ?_
  refine V_lload_n C 1 dX0_fraction_14 rfl rfl ?_
  obtain ⟨r_6, hc_7, hm⟩ := bnd hm
  refine V_callSL C (As := [.long r_4, .long r_1]) (wr := [(h0, eO 0 [.ref a_s_given, .ref a_s_numbers, .ref a_s_frees, .ref a_s_uppers, .int s_n, .int s_m, .int s_turnsTaken, .int s_settled]), (a_s_given, eI 25 s_given), (a_s_numbers, eJ 25 s_numbers), (a_s_frees, eZ 4 s_frees), (a_s_uppers, eJ 4 w_2)]) (ws2 := [(h0, eO 0 [.ref a_s_given, .ref a_s_numbers, .ref a_s_frees, .ref a_s_uppers, .int s_n, .int s_m, .int s_turnsTaken, .int s_settled]), (a_s_given, eI 25 s_given), (a_s_numbers, eJ 25 s_numbers), (a_s_frees, eZ 4 s_frees), (a_s_uppers, eJ 4 w_2)]) (kX5_greatestPart r_4 r_1 r_6 hc_7) gX0_fraction_X5_greatestPart rfl ⟨rfl, rfl⟩ hdX5_greatestPart ⟨Nat.le_of_ble_eq_true rfl, Nat.le_of_ble_eq_true rfl⟩ ⟨Nat.zero_le _, Nat.zero_le _⟩ [] [0, 1, 2, 3, 4] [0, 1, 2, 3, 4] rfl rfl ⟨rfl, rfl, rfl⟩ (by decide) rfl rfl (Nat.le_of_ble_eq_true rfl) dX0_fraction_15 ?_
  refine V_lstore C (lv' := [(7, .long r_6), (5, .long r_4), (3, .long r_1), (0, .ref h0), (1, .int p0), (2, .int p1)]) dX0_fraction_18 (by decide) rfl ?_
  refine V_lload C 0 dX0_fraction_20 rfl ?_
  refine V_lconst C (v := (0 : Int64)) dX0_fraction_22 (by decide) ?_
  refine V_lcmp_ne C 29 dX0_fraction_23 dX0_fraction_24 (by decide) (fun c_8 => ?_) (fun c_8 => ?_)
  · have hm := ite_t c_8 hm
    refine V_lconst C (v := (0 : Int64)) dX0_fraction_27 (by decide) ?_
    cases hm
    exact hR _ _ dX0_fraction_28
  · have hm := ite_f c_8 hm
    refine V_iload_n C 5 dX0_fraction_29 rfl rfl ?_
    refine V_if_ne C 38 dX0_fraction_30 (by decide) (fun c_9 => ?_) (fun c_9 => ?_)
    · have hm := ite_t c_9 hm
      refine V_lload C 1 dX0_fraction_33 rfl ?_
      refine V_goto C 39 dX0_fraction_35 (by decide) ?_
      refine V_lload C 0 dX0_fraction_39 rfl ?_
      obtain ⟨v_10, hv_10, hm⟩ := bnd hm
      refine V_ldiv C hv_10 dX0_fraction_41 ?_
      cases hm
      exact hR _ _ dX0_fraction_42
    · have hm := ite_f c_9 hm
      refine V_lload_n C 2 dX0_fraction_38 rfl rfl ?_
      refine V_lload C 0 dX0_fraction_39 rfl ?_
      obtain ⟨v_11, hv_11, hm⟩ := bnd hm
      refine V_ldiv C hv_11 dX0_fraction_41 ?_
      cases hm
      exact hR _ _ dX0_fraction_42
theorem hdX0_fraction : yX0_fraction.cls = RX0 ∧ yX0_fraction.cls ≠ "java/lang/invoke/MethodHandle" ∧ yX0_fraction.cls ≠ "java/lang/invoke/VarHandle" ∧ (parseMethodDescriptor yX0_fraction.desc).map (fun d => d.parameters.length) = some 2 := by decide +kernel
