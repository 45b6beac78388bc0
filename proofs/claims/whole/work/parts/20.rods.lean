-- RodBoard$Rods.tenTo(I)J
theorem mX5_tenTo_1 : Cond.fieldLink RX5 9 "RodBoard$Rods" "TENS" "[J" ∈ wsX5_tenTo := List.mem_of_getElem? (i := 1) rfl
def fX5_tenTo (p0 : Int32) : Option ((Int64)) := if p0 < (0 : Int32) then some (0 : Int64) else if p0 < (12 : Int32) then Option.bind (rdJ tensF 12 p0) (fun v_5 => some v_5) else some (0 : Int64)
set_option maxHeartbeats 4000000 in
set_option maxRecDepth 100000 in
theorem kX5_tenTo {l : Launch} (p0 : Int32) (r : Int64) (hm : fX5_tenTo p0 = some r) : CtL l yX5_tenTo wsX5_tenTo ({ frames := 0, cells := 0, slots := 0, locals := 0 } : Room) [.int p0] [] r [] := by
  refine CtL_of (cc := cX5_tenTo) (maxL := 1) (own := RX5) rfl (by decide) rfl (lv0 := [(0, .int p0)]) rfl (Nat.le_of_ble_eq_true rfl) (fun Γ hL C hR => ?_)
  subst hL
  unfold fX5_tenTo at hm
  refine V_iload_n C 0 dX5_tenTo_0 rfl rfl ?_
  refine V_if_lt C 20 dX5_tenTo_1 (by decide) (fun c_1 => ?_) (fun c_1 => ?_)
  · have hm := ite_t c_1 hm
    refine V_lconst C (v := (0 : Int64)) dX5_tenTo_20 (by decide) ?_
    cases hm
    exact hR _ _ dX5_tenTo_21
  · have hm := ite_f c_1 hm
    refine V_iload_n C 0 dX5_tenTo_4 rfl rfl ?_
    refine V_tens C mX5_tenTo_1 dX5_tenTo_5 (fun t_2 ht_2 => ?_)
    refine V_tensLen C ht_2 dX5_tenTo_8 ?_
    refine V_icmp_ge C 20 dX5_tenTo_9 (by decide) (fun c_3 => ?_) (fun c_3 => ?_)
    · have hm := ite_t c_3 hm
      refine V_tens C mX5_tenTo_1 dX5_tenTo_12 (fun t_4 ht_4 => ?_)
      refine V_iload_n C 0 dX5_tenTo_15 rfl rfl ?_
      obtain ⟨v_5, hv_5, hm⟩ := bnd hm
      refine V_tensLd C ht_4 hv_5 dX5_tenTo_16 ?_
      refine V_goto C 21 dX5_tenTo_17 (by decide) ?_
      cases hm
      exact hR _ _ dX5_tenTo_21
    · have hm := ite_f c_3 hm
      refine V_lconst C (v := (0 : Int64)) dX5_tenTo_20 (by decide) ?_
      cases hm
      exact hR _ _ dX5_tenTo_21
theorem hdX5_tenTo : yX5_tenTo.cls ≠ "java/lang/invoke/MethodHandle" ∧ yX5_tenTo.cls ≠ "java/lang/invoke/VarHandle" ∧ (parseMethodDescriptor yX5_tenTo.desc).map (fun d => d.parameters.length) = some 1 := by decide +kernel
-- RodBoard$Rods.isBeyond(J)Z
theorem mX5_isBeyond_1 : Cond.constantLong RX5 15 (-1000000000000) ∈ wsX5_isBeyond := List.mem_of_getElem? (i := 1) rfl
theorem mX5_isBeyond_2 : Cond.constantLong RX5 17 (1000000000000) ∈ wsX5_isBeyond := List.mem_of_getElem? (i := 2) rfl
def fX5_isBeyond (p0 : Int64) : Option ((Int32)) := if (-1000000000000 : Int64) < p0 then if p0 < (1000000000000 : Int64) then some (0 : Int32) else some (1 : Int32) else some (1 : Int32)
set_option maxHeartbeats 4000000 in
set_option maxRecDepth 100000 in
theorem kX5_isBeyond {l : Launch} (p0 : Int64) (r : Int32) (hm : fX5_isBeyond p0 = some r) : CtI l yX5_isBeyond wsX5_isBeyond ({ frames := 0, cells := 0, slots := 0, locals := 0 } : Room) [.long p0] [] r [] := by
  refine CtI_of (cc := cX5_isBeyond) (maxL := 2) (ty := .boolean) (own := RX5) rfl (by decide) rfl (lv0 := [(0, .long p0)]) rfl (Nat.le_of_ble_eq_true rfl) (fun Γ hL C hR => ?_)
  subst hL
  unfold fX5_isBeyond at hm
  refine V_lload_n C 0 dX5_isBeyond_0 rfl rfl ?_
  refine V_ldc2 C (v := (-1000000000000 : Int64)) mX5_isBeyond_1 dX5_isBeyond_1 ?_
  refine V_lcmp_le C 16 dX5_isBeyond_4 dX5_isBeyond_5 (by decide) (fun c_1 => ?_) (fun c_1 => ?_)
  · have hm := ite_t c_1 hm
    refine V_lload_n C 0 dX5_isBeyond_8 rfl rfl ?_
    refine V_ldc2 C (v := (1000000000000 : Int64)) mX5_isBeyond_2 dX5_isBeyond_9 ?_
    refine V_lcmp_lt C 20 dX5_isBeyond_12 dX5_isBeyond_13 (by decide) (fun c_2 => ?_) (fun c_2 => ?_)
    · have hm := ite_t c_2 hm
      refine V_iconst C (v := (0 : Int32)) dX5_isBeyond_20 (by decide) ?_
      cases hm
      exact hR _ _ rfl dX5_isBeyond_21
    · have hm := ite_f c_2 hm
      refine V_iconst C (v := (1 : Int32)) dX5_isBeyond_16 (by decide) ?_
      refine V_goto C 21 dX5_isBeyond_17 (by decide) ?_
      cases hm
      exact hR _ _ rfl dX5_isBeyond_21
  · have hm := ite_f c_1 hm
    refine V_iconst C (v := (1 : Int32)) dX5_isBeyond_16 (by decide) ?_
    refine V_goto C 21 dX5_isBeyond_17 (by decide) ?_
    cases hm
    exact hR _ _ rfl dX5_isBeyond_21
theorem hdX5_isBeyond : yX5_isBeyond.cls ≠ "java/lang/invoke/MethodHandle" ∧ yX5_isBeyond.cls ≠ "java/lang/invoke/VarHandle" ∧ (parseMethodDescriptor yX5_isBeyond.desc).map (fun d => d.parameters.length) = some 1 := by decide +kernel
-- RodBoard$Rods.colour(J)I
def fX5_colour (p0 : Int64) : Option ((Int32)) := if p0 = (0 : Int64) then some (0 : Int32) else if (0 : Int64) < p0 then some (1 : Int32) else some (2 : Int32)
set_option maxHeartbeats 4000000 in
set_option maxRecDepth 100000 in
theorem kX5_colour {l : Launch} (p0 : Int64) (r : Int32) (hm : fX5_colour p0 = some r) : CtI l yX5_colour wsX5_colour ({ frames := 0, cells := 0, slots := 0, locals := 0 } : Room) [.long p0] [] r [] := by
  refine CtI_of (cc := cX5_colour) (maxL := 2) (ty := .int) (own := RX5) rfl (by decide) rfl (lv0 := [(0, .long p0)]) rfl (Nat.le_of_ble_eq_true rfl) (fun Γ hL C hR => ?_)
  subst hL
  unfold fX5_colour at hm
  refine V_lload_n C 0 dX5_colour_0 rfl rfl ?_
  refine V_lconst C (v := (0 : Int64)) dX5_colour_1 (by decide) ?_
  refine V_lcmp_ne C 8 dX5_colour_2 dX5_colour_3 (by decide) (fun c_1 => ?_) (fun c_1 => ?_)
  · have hm := ite_t c_1 hm
    refine V_iconst C (v := (0 : Int32)) dX5_colour_6 (by decide) ?_
    cases hm
    exact hR _ _ rfl dX5_colour_7
  · have hm := ite_f c_1 hm
    refine V_lload_n C 0 dX5_colour_8 rfl rfl ?_
    refine V_lconst C (v := (0 : Int64)) dX5_colour_9 (by decide) ?_
    refine V_lcmp_le C 18 dX5_colour_10 dX5_colour_11 (by decide) (fun c_2 => ?_) (fun c_2 => ?_)
    · have hm := ite_t c_2 hm
      refine V_iconst C (v := (1 : Int32)) dX5_colour_14 (by decide) ?_
      refine V_goto C 19 dX5_colour_15 (by decide) ?_
      cases hm
      exact hR _ _ rfl dX5_colour_19
    · have hm := ite_f c_2 hm
      refine V_iconst C (v := (2 : Int32)) dX5_colour_18 (by decide) ?_
      cases hm
      exact hR _ _ rfl dX5_colour_19
theorem hdX5_colour : yX5_colour.cls ≠ "java/lang/invoke/MethodHandle" ∧ yX5_colour.cls ≠ "java/lang/invoke/VarHandle" ∧ (parseMethodDescriptor yX5_colour.desc).map (fun d => d.parameters.length) = some 1 := by decide +kernel
-- RodBoard$Rods.way(I)I
def fX5_way (p0 : Int32) : Option ((Int32)) := some (p0 &&& (1 : Int32))
set_option maxHeartbeats 4000000 in
set_option maxRecDepth 100000 in
theorem kX5_way {l : Launch} (p0 : Int32) (r : Int32) (hm : fX5_way p0 = some r) : CtI l yX5_way wsX5_way ({ frames := 0, cells := 0, slots := 0, locals := 0 } : Room) [.int p0] [] r [] := by
  refine CtI_of (cc := cX5_way) (maxL := 1) (ty := .int) (own := RX5) rfl (by decide) rfl (lv0 := [(0, .int p0)]) rfl (Nat.le_of_ble_eq_true rfl) (fun Γ hL C hR => ?_)
  subst hL
  unfold fX5_way at hm
  refine V_iload_n C 0 dX5_way_0 rfl rfl ?_
  refine V_iconst C (v := (1 : Int32)) dX5_way_1 (by decide) ?_
  refine V_iand C dX5_way_2 ?_
  cases hm
  exact hR _ _ rfl dX5_way_3
theorem hdX5_way : yX5_way.cls ≠ "java/lang/invoke/MethodHandle" ∧ yX5_way.cls ≠ "java/lang/invoke/VarHandle" ∧ (parseMethodDescriptor yX5_way.desc).map (fun d => d.parameters.length) = some 1 := by decide +kernel
-- RodBoard$Rods.digit(JI)I
theorem mX5_digit_1 : Cond.methodLink RX5 23 Lib.MathLoose.abs_long.x ∈ wsX5_digit := List.mem_of_getElem? (i := 1) rfl
theorem mX5_digit_2 : Cond.static Lib.MathLoose.abs_long.x ∈ wsX5_digit := List.mem_of_getElem? (i := 2) rfl
theorem mX5_digit_3 : Cond.initialized "java/lang/Math" ∈ wsX5_digit := List.mem_of_getElem? (i := 3) rfl
theorem mX5_digit_4 : Cond.code Lib.MathLoose.abs_long.x Lib.MathLoose.abs_long.code 2 (some .long) ∈ wsX5_digit := List.mem_of_getElem? (i := 4) rfl
theorem mX5_digit_5 : Cond.constantLong RX5 29 (10) ∈ wsX5_digit := List.mem_of_getElem? (i := 5) rfl
def fX5_digit (p0 : Int64) (p1 : Int32) : Option ((Int32)) := Option.bind (fX5_tenTo p1) (fun r_1 => if r_1 = (0 : Int64) then some (0 : Int32) else Option.bind (dvJ (jabs p0) r_1) (fun v_4 => some ((v_4 % (10 : Int64)).toInt32)))
set_option maxHeartbeats 4000000 in
set_option maxRecDepth 100000 in
theorem kX5_digit {l : Launch} (p0 : Int64) (p1 : Int32) (r : Int32) (hm : fX5_digit p0 p1 = some r) : CtI l yX5_digit wsX5_digit ({ frames := 1, cells := 0, slots := 0, locals := 20 } : Room) [.long p0, .int p1] [] r [] := by
  refine CtI_of (cc := cX5_digit) (maxL := 5) (ty := .int) (own := RX5) rfl (by decide) rfl (lv0 := [(0, .long p0), (2, .int p1)]) rfl (Nat.le_of_ble_eq_true rfl) (fun Γ hL C hR => ?_)
  subst hL
  unfold fX5_digit at hm
  refine V_iload_n C 1 dX5_digit_0 rfl rfl ?_
  obtain ⟨r_1, hc_2, hm⟩ := bnd hm
  refine V_callSL C (As := [.int p1]) (wr := []) (ws2 := []) (kX5_tenTo p1 r_1 hc_2) gX5_digit_X5_tenTo rfl ⟨rfl, rfl⟩ hdX5_tenTo ⟨Nat.le_of_ble_eq_true rfl, Nat.le_of_ble_eq_true rfl⟩ ⟨Nat.zero_le _, Nat.zero_le _⟩ [] [] [] rfl rfl ⟨rfl, rfl, rfl⟩ (by decide) rfl rfl (Nat.le_of_ble_eq_true rfl) dX5_digit_1 ?_
  refine V_lstore_n C (lv' := [(3, .long r_1), (0, .long p0), (2, .int p1)]) dX5_digit_4 rfl (by decide) rfl ?_
  refine V_lload_n C 0 dX5_digit_5 rfl rfl ?_
  refine V_lconst C (v := (0 : Int64)) dX5_digit_6 (by decide) ?_
  refine V_lcmp_ne C 15 dX5_digit_7 dX5_digit_8 (by decide) (fun c_3 => ?_) (fun c_3 => ?_)
  · have hm := ite_t c_3 hm
    refine V_iconst C (v := (0 : Int32)) dX5_digit_11 (by decide) ?_
    refine V_goto C 26 dX5_digit_12 (by decide) ?_
    cases hm
    exact hR _ _ rfl dX5_digit_26
  · have hm := ite_f c_3 hm
    refine V_lload_n C 1 dX5_digit_15 rfl rfl ?_
    refine V_abs C mX5_digit_1 mX5_digit_2 mX5_digit_3 mX5_digit_4 ⟨Nat.le_of_ble_eq_true rfl, Nat.le_of_ble_eq_true rfl⟩ ⟨Nat.zero_le _, Nat.zero_le _⟩ dX5_digit_16 ?_
    refine V_lload_n C 0 dX5_digit_19 rfl rfl ?_
    obtain ⟨v_4, hv_4, hm⟩ := bnd hm
    refine V_ldiv C hv_4 dX5_digit_20 ?_
    refine V_ldc2 C (v := (10 : Int64)) mX5_digit_5 dX5_digit_21 ?_
    refine V_lremK C (by decide) dX5_digit_24 ?_
    refine V_l2i C dX5_digit_25 ?_
    cases hm
    exact hR _ _ rfl dX5_digit_26
theorem hdX5_digit : yX5_digit.cls ≠ "java/lang/invoke/MethodHandle" ∧ yX5_digit.cls ≠ "java/lang/invoke/VarHandle" ∧ (parseMethodDescriptor yX5_digit.desc).map (fun d => d.parameters.length) = some 2 := by decide +kernel
-- RodBoard$Rods.withDigit(JII)J
def fX5_withDigit (p0 : Int64) (p1 : Int32) (p2 : Int32) : Option ((Int64)) := Option.bind (fX5_digit p0 p1) (fun r_1 => Option.bind (fX5_tenTo p1) (fun r_3 => if p0 < (0 : Int64) then some (p0 - (((p2 - r_1).toInt64) * r_3)) else some (p0 + (((p2 - r_1).toInt64) * r_3))))
set_option maxHeartbeats 4000000 in
set_option maxRecDepth 100000 in
theorem kX5_withDigit {l : Launch} (p0 : Int64) (p1 : Int32) (p2 : Int32) (r : Int64) (hm : fX5_withDigit p0 p1 p2 = some r) : CtL l yX5_withDigit wsX5_withDigit ({ frames := 2, cells := 0, slots := 0, locals := 44 } : Room) [.long p0, .int p1, .int p2] [] r [] := by
  refine CtL_of (cc := cX5_withDigit) (maxL := 6) (own := RX5) rfl (by decide) rfl (lv0 := [(0, .long p0), (2, .int p1), (3, .int p2)]) rfl (Nat.le_of_ble_eq_true rfl) (fun Γ hL C hR => ?_)
  subst hL
  unfold fX5_withDigit at hm
  refine V_iload_n C 2 dX5_withDigit_0 rfl rfl ?_
  refine V_lload_n C 0 dX5_withDigit_1 rfl rfl ?_
  refine V_iload_n C 1 dX5_withDigit_2 rfl rfl ?_
  obtain ⟨r_1, hc_2, hm⟩ := bnd hm
  refine V_callSI C (As := [.long p0, .int p1]) (wr := []) (ws2 := []) (kX5_digit p0 p1 r_1 hc_2) gX5_withDigit_X5_digit rfl ⟨rfl, rfl⟩ hdX5_digit ⟨Nat.le_of_ble_eq_true rfl, Nat.le_of_ble_eq_true rfl⟩ ⟨Nat.zero_le _, Nat.zero_le _⟩ [] [] [] rfl rfl ⟨rfl, rfl, rfl⟩ (by decide) rfl rfl (Nat.le_of_ble_eq_true rfl) dX5_withDigit_3 ?_
  refine V_isub C dX5_withDigit_6 ?_
  refine V_i2l C dX5_withDigit_7 ?_
  refine V_iload_n C 1 dX5_withDigit_8 rfl rfl ?_
  obtain ⟨r_3, hc_4, hm⟩ := bnd hm
  refine V_callSL C (As := [.int p1]) (wr := []) (ws2 := []) (kX5_tenTo p1 r_3 hc_4) gX5_withDigit_X5_tenTo rfl ⟨rfl, rfl⟩ hdX5_tenTo ⟨Nat.le_of_ble_eq_true rfl, Nat.le_of_ble_eq_true rfl⟩ ⟨Nat.zero_le _, Nat.zero_le _⟩ [] [] [] rfl rfl ⟨rfl, rfl, rfl⟩ (by decide) rfl rfl (Nat.le_of_ble_eq_true rfl) dX5_withDigit_9 ?_
  refine V_lmul C dX5_withDigit_12 ?_
  refine V_lstore C (lv' := [(4, .long (((p2 - r_1).toInt64) * r_3)), (0, .long p0), (2, .int p1), (3, .int p2)]) dX5_withDigit_13 (by decide) rfl ?_
  refine V_lload_n C 1 dX5_withDigit_15 rfl rfl ?_
  refine V_lconst C (v := (0 : Int64)) dX5_withDigit_16 (by decide) ?_
  refine V_lcmp_ge C 28 dX5_withDigit_17 dX5_withDigit_18 (by decide) (fun c_5 => ?_) (fun c_5 => ?_)
  · have hm := ite_t c_5 hm
    refine V_lload_n C 1 dX5_withDigit_21 rfl rfl ?_
    refine V_lload C 0 dX5_withDigit_22 rfl ?_
    refine V_lsub C dX5_withDigit_24 ?_
    refine V_goto C 32 dX5_withDigit_25 (by decide) ?_
    cases hm
    exact hR _ _ dX5_withDigit_32
  · have hm := ite_f c_5 hm
    refine V_lload_n C 1 dX5_withDigit_28 rfl rfl ?_
    refine V_lload C 0 dX5_withDigit_29 rfl ?_
    refine V_ladd C dX5_withDigit_31 ?_
    cases hm
    exact hR _ _ dX5_withDigit_32
theorem hdX5_withDigit : yX5_withDigit.cls ≠ "java/lang/invoke/MethodHandle" ∧ yX5_withDigit.cls ≠ "java/lang/invoke/VarHandle" ∧ (parseMethodDescriptor yX5_withDigit.desc).map (fun d => d.parameters.length) = some 3 := by decide +kernel
-- RodBoard$Rods.allSticks(J)I
def fX5_allSticks_L4b (x0 : Int64) (x2 : Int32) (x3 : Int32) : Option (((Int32) × (Int32)) ⊕ ((Int32))) := if x3 < (12 : Int32) then Option.bind (fX5_digit x0 x3) (fun r_2 => some (Sum.inl (x2 + r_2, x3 + (1 : Int32)))) else some (Sum.inr x2)
def fX5_allSticks_L4 (x0 : Int64) : ((Int32) × (Int32)) → Option (((Int32) × (Int32)) ⊕ ((Int32))) := fun e => fX5_allSticks_L4b x0 e.1 e.2
set_option maxHeartbeats 4000000 in
set_option maxRecDepth 100000 in
theorem bX5_allSticks_L4 {Γ : KT} (C : CX Γ cX5_allSticks 4 wsX5_allSticks RX5 ({ frames := 2, cells := 0, slots := 0, locals := 44 } : Room)) (x0 : Int64) (x2 : Int32) (x3 : Int32) (x : ((Int32) × (Int32)) ⊕ ((Int32))) (hm : fX5_allSticks_L4b x0 x2 x3 = some x) (hb : (∀ (x2' : Int32) (x3' : Int32), x = Sum.inl (x2', x3') → V Γ 4 0 0 4 [(0, .long x0), (2, .int x2'), (3, .int x3')] [] [])) (he0 : (∀ (x2' : Int32), x = Sum.inr x2' → V Γ 4 0 0 24 [(2, .int x2')] [] [])) : V Γ 4 0 0 4 [(0, .long x0), (2, .int x2), (3, .int x3)] [] [] := by
  unfold fX5_allSticks_L4b at hm
  refine V_iload_n C 2 dX5_allSticks_4 rfl rfl ?_
  refine V_bipush C (v := (12 : Int32)) dX5_allSticks_5 (by decide) ?_
  refine V_icmp_ge C 24 dX5_allSticks_7 (by decide) (fun c_1 => ?_) (fun c_1 => ?_)
  · have hm := ite_t c_1 hm
    refine V_iload_n C 1 dX5_allSticks_10 rfl rfl ?_
    refine V_lload_n C 0 dX5_allSticks_11 rfl rfl ?_
    refine V_iload_n C 2 dX5_allSticks_12 rfl rfl ?_
    obtain ⟨r_2, hc_3, hm⟩ := bnd hm
    refine V_callSI C (As := [.long x0, .int x3]) (wr := []) (ws2 := []) (kX5_digit x0 x3 r_2 hc_3) gX5_allSticks_X5_digit rfl ⟨rfl, rfl⟩ hdX5_digit ⟨Nat.le_of_ble_eq_true rfl, Nat.le_of_ble_eq_true rfl⟩ ⟨Nat.zero_le _, Nat.zero_le _⟩ [] [] [] rfl rfl ⟨rfl, rfl, rfl⟩ (by decide) rfl rfl (Nat.le_of_ble_eq_true rfl) dX5_allSticks_13 ?_
    refine V_iadd C dX5_allSticks_16 ?_
    refine V_istore_n C (lv' := [(2, .int (x2 + r_2)), (0, .long x0), (3, .int x3)]) dX5_allSticks_17 rfl (by decide) rfl ?_
    refine V_iinc C 2 (v := x3 + (1 : Int32)) (lv' := [(3, .int (x3 + (1 : Int32))), (2, .int (x2 + r_2)), (0, .long x0)]) dX5_allSticks_18 rfl rfl (by decide) rfl ?_
    refine V_goto C 4 dX5_allSticks_21 (by decide) ?_
    refine V_lv [2, 1, 0] rfl ?_
    exact hb (x2 + r_2) (x3 + (1 : Int32)) (Option.some.inj hm).symm
  · have hm := ite_f c_1 hm
    refine V_lv [1] rfl ?_
    exact he0 x2 (Option.some.inj hm).symm
theorem lX5_allSticks_L4 {Γ : KT} (C : CX Γ cX5_allSticks 4 wsX5_allSticks RX5 ({ frames := 2, cells := 0, slots := 0, locals := 44 } : Room)) (x0 : Int64) (x2 : Int32) (x3 : Int32) (N : Nat) (e : (Int32)) (hN : itr (fX5_allSticks_L4 x0) N (x2, x3) = some e) (he0 : (∀ (x2' : Int32), e = x2' → V Γ 4 0 0 24 [(2, .int x2')] [] [])) : V Γ 4 0 0 4 [(0, .long x0), (2, .int x2), (3, .int x3)] [] [] := by
  induction N generalizing x2 x3 with
  | zero => exact absurd hN (fun h => itr_0 h)
  | succ N ih =>
    obtain ⟨x, hx, hN⟩ := itr_s hN
    refine bX5_allSticks_L4 C x0 x2 x3 x hx (fun x2' x3' h => ih x2' x3' (by subst h; exact hN)) (fun y0 h => he0 y0 (by subst h; exact (Option.some.inj hN).symm))
def fX5_allSticks (p0 : Int64) : Option ((Int32)) := Option.bind (itr (fX5_allSticks_L4 p0) KF ((0 : Int32), (0 : Int32))) (fun x2_6 => some x2_6)
set_option maxHeartbeats 4000000 in
set_option maxRecDepth 100000 in
theorem kX5_allSticks {l : Launch} (p0 : Int64) (r : Int32) (hm : fX5_allSticks p0 = some r) : CtI l yX5_allSticks wsX5_allSticks ({ frames := 2, cells := 0, slots := 0, locals := 44 } : Room) [.long p0] [] r [] := by
  refine CtI_of (cc := cX5_allSticks) (maxL := 4) (ty := .int) (own := RX5) rfl (by decide) rfl (lv0 := [(0, .long p0)]) rfl (Nat.le_of_ble_eq_true rfl) (fun Γ hL C hR => ?_)
  subst hL
  unfold fX5_allSticks at hm
  refine V_iconst C (v := (0 : Int32)) dX5_allSticks_0 (by decide) ?_
  refine V_istore_n C (lv' := [(2, .int (0 : Int32)), (0, .long p0)]) dX5_allSticks_1 rfl (by decide) rfl ?_
  refine V_iconst C (v := (0 : Int32)) dX5_allSticks_2 (by decide) ?_
  refine V_istore_n C (lv' := [(3, .int (0 : Int32)), (2, .int (0 : Int32)), (0, .long p0)]) dX5_allSticks_3 rfl (by decide) rfl ?_
  obtain ⟨x2_6, hE_5, hm⟩ := bnd hm
  refine V_lv [2, 1, 0] rfl ?_
  refine lX5_allSticks_L4 C p0 (0 : Int32) (0 : Int32) KF _ hE_5 ?_
  intro q_7 hq
  cases hq
  refine V_iload_n C 0 dX5_allSticks_24 rfl rfl ?_
  cases hm
  exact hR _ _ rfl dX5_allSticks_25
theorem hdX5_allSticks : yX5_allSticks.cls ≠ "java/lang/invoke/MethodHandle" ∧ yX5_allSticks.cls ≠ "java/lang/invoke/VarHandle" ∧ (parseMethodDescriptor yX5_allSticks.desc).map (fun d => d.parameters.length) = some 1 := by decide +kernel
-- RodBoard$Rods.highestPlace(J)I
def fX5_highestPlace_L3b (x0 : Int64) (x2 : Int32) : Option (((Int32)) ⊕ ((Unit) ⊕ ((Int32)))) := if x2 < (0 : Int32) then some (Sum.inr (Sum.inl ())) else Option.bind (fX5_digit x0 x2) (fun r_2 => if r_2 = (0 : Int32) then some (Sum.inl (x2 + (-1 : Int32))) else some (Sum.inr (Sum.inr x2)))
def fX5_highestPlace_L3 (x0 : Int64) : ((Int32)) → Option (((Int32)) ⊕ ((Unit) ⊕ ((Int32)))) := fun e => fX5_highestPlace_L3b x0 e
set_option maxHeartbeats 4000000 in
set_option maxRecDepth 100000 in
theorem bX5_highestPlace_L3 {Γ : KT} (C : CX Γ cX5_highestPlace 3 wsX5_highestPlace RX5 ({ frames := 2, cells := 0, slots := 0, locals := 44 } : Room)) (x0 : Int64) (x2 : Int32) (x : ((Int32)) ⊕ ((Unit) ⊕ ((Int32)))) (hm : fX5_highestPlace_L3b x0 x2 = some x) (hb : (∀ (x2' : Int32), x = Sum.inl x2' → V Γ 3 0 0 3 [(0, .long x0), (2, .int x2')] [] [])) (he0 : (∀ (_ : Unit), x = Sum.inr (Sum.inl ()) → V Γ 3 0 0 23 [] [] [])) (her : (∀ (r' : Int32), x = Sum.inr (Sum.inr r') → (∀ (pc : Nat) (lv : List (Nat × Value)), narrow .int (.int r') = .int r' → decode cX5_highestPlace pc = .ok (.ireturn, 1) → V Γ 3 0 0 pc lv [.int r'] []))) : V Γ 3 0 0 3 [(0, .long x0), (2, .int x2)] [] [] := by
  unfold fX5_highestPlace_L3b at hm
  refine V_iload_n C 1 dX5_highestPlace_3 rfl rfl ?_
  refine V_if_lt C 23 dX5_highestPlace_4 (by decide) (fun c_1 => ?_) (fun c_1 => ?_)
  · have hm := ite_t c_1 hm
    refine V_lv [] rfl ?_
    exact he0 () (Option.some.inj hm).symm
  · have hm := ite_f c_1 hm
    refine V_lload_n C 0 dX5_highestPlace_7 rfl rfl ?_
    refine V_iload_n C 1 dX5_highestPlace_8 rfl rfl ?_
    obtain ⟨r_2, hc_3, hm⟩ := bnd hm
    refine V_callSI C (As := [.long x0, .int x2]) (wr := []) (ws2 := []) (kX5_digit x0 x2 r_2 hc_3) gX5_highestPlace_X5_digit rfl ⟨rfl, rfl⟩ hdX5_digit ⟨Nat.le_of_ble_eq_true rfl, Nat.le_of_ble_eq_true rfl⟩ ⟨Nat.zero_le _, Nat.zero_le _⟩ [] [] [] rfl rfl ⟨rfl, rfl, rfl⟩ (by decide) rfl rfl (Nat.le_of_ble_eq_true rfl) dX5_highestPlace_9 ?_
    refine V_if_eq C 17 dX5_highestPlace_12 (by decide) (fun c_4 => ?_) (fun c_4 => ?_)
    · have hm := ite_t c_4 hm
      refine V_iinc C 1 (v := x2 + (-1 : Int32)) (lv' := [(2, .int (x2 + (-1 : Int32))), (0, .long x0)]) dX5_highestPlace_17 rfl rfl (by decide) rfl ?_
      refine V_goto C 3 dX5_highestPlace_20 (by decide) ?_
      refine V_lv [1, 0] rfl ?_
      exact hb (x2 + (-1 : Int32)) (Option.some.inj hm).symm
    · have hm := ite_f c_4 hm
      refine V_iload_n C 1 dX5_highestPlace_15 rfl rfl ?_
      exact her x2 (Option.some.inj hm).symm _ _ rfl dX5_highestPlace_16
theorem lX5_highestPlace_L3 {Γ : KT} (C : CX Γ cX5_highestPlace 3 wsX5_highestPlace RX5 ({ frames := 2, cells := 0, slots := 0, locals := 44 } : Room)) (x0 : Int64) (x2 : Int32) (N : Nat) (e : (Unit) ⊕ ((Int32))) (hN : itr (fX5_highestPlace_L3 x0) N x2 = some e) (he0 : (∀ (_ : Unit), e = Sum.inl () → V Γ 3 0 0 23 [] [] [])) (her : (∀ (r' : Int32), e = Sum.inr r' → (∀ (pc : Nat) (lv : List (Nat × Value)), narrow .int (.int r') = .int r' → decode cX5_highestPlace pc = .ok (.ireturn, 1) → V Γ 3 0 0 pc lv [.int r'] []))) : V Γ 3 0 0 3 [(0, .long x0), (2, .int x2)] [] [] := by
  induction N generalizing x2 with
  | zero => exact absurd hN (fun h => itr_0 h)
  | succ N ih =>
    obtain ⟨x, hx, hN⟩ := itr_s hN
    refine bX5_highestPlace_L3 C x0 x2 x hx (fun x2' h => ih x2' (by subst h; exact hN)) (fun _ h => he0 () (by subst h; exact (Option.some.inj hN).symm)) (fun y0 h => her y0 (by subst h; exact (Option.some.inj hN).symm))
def fX5_highestPlace (p0 : Int64) : Option ((Int32)) := Option.bind (itr (fX5_highestPlace_L3 p0) KF (11 : Int32)) (Sum.elim (fun (_ : Unit) => some (-6 : Int32)) (fun rr_7 => some rr_7))
set_option maxHeartbeats 4000000 in
set_option maxRecDepth 100000 in
theorem kX5_highestPlace {l : Launch} (p0 : Int64) (r : Int32) (hm : fX5_highestPlace p0 = some r) : CtI l yX5_highestPlace wsX5_highestPlace ({ frames := 2, cells := 0, slots := 0, locals := 44 } : Room) [.long p0] [] r [] := by
  refine CtI_of (cc := cX5_highestPlace) (maxL := 3) (ty := .int) (own := RX5) rfl (by decide) rfl (lv0 := [(0, .long p0)]) rfl (Nat.le_of_ble_eq_true rfl) (fun Γ hL C hR => ?_)
  subst hL
  unfold fX5_highestPlace at hm
  refine V_bipush C (v := (11 : Int32)) dX5_highestPlace_0 (by decide) ?_
  refine V_istore_n C (lv' := [(2, .int (11 : Int32)), (0, .long p0)]) dX5_highestPlace_2 rfl (by decide) rfl ?_
  obtain ⟨e_5, hE_6, hm⟩ := bnd hm
  refine V_lv [1, 0] rfl ?_
  refine lX5_highestPlace_L3 C p0 (11 : Int32) KF _ hE_6 ?_ ?_
  · intro _ hq
    subst hq
    -- exit
    dsimp only [Sum.elim_inl, Sum.elim_inr, un2, un3, un4, un5, un6, un7, un8, un9, un10, un11] at hm
    refine V_bipush C (v := (-6 : Int32)) dX5_highestPlace_23 (by decide) ?_
    cases hm
    exact hR _ _ rfl dX5_highestPlace_25
  · intro rr_7 hq
    subst hq
    dsimp only [Sum.elim_inl, Sum.elim_inr, un2, un3, un4, un5, un6, un7, un8, un9, un10, un11] at hm
    cases hm
    exact hR
theorem hdX5_highestPlace : yX5_highestPlace.cls ≠ "java/lang/invoke/MethodHandle" ∧ yX5_highestPlace.cls ≠ "java/lang/invoke/VarHandle" ∧ (parseMethodDescriptor yX5_highestPlace.desc).map (fun d => d.parameters.length) = some 1 := by decide +kernel
-- RodBoard$Rods.emptyPlaces(J)I
def fX5_emptyPlaces_L10b (x0 : Int64) (x3 : Int32) (x2 : Int32) (x4 : Int32) : Option (((Int32) × (Int32)) ⊕ ((Int32))) := if x4 < x3 then Option.bind (fX5_digit x0 x4) (fun r_4 => if r_4 = (0 : Int32) then some (Sum.inl (x2 + (1 : Int32), x4 + (1 : Int32))) else some (Sum.inl (x2, x4 + (1 : Int32)))) else some (Sum.inr x2)
def fX5_emptyPlaces_L10 (x0 : Int64) (x3 : Int32) : ((Int32) × (Int32)) → Option (((Int32) × (Int32)) ⊕ ((Int32))) := fun e => fX5_emptyPlaces_L10b x0 x3 e.1 e.2
set_option maxHeartbeats 4000000 in
set_option maxRecDepth 100000 in
theorem bX5_emptyPlaces_L10 {Γ : KT} (C : CX Γ cX5_emptyPlaces 5 wsX5_emptyPlaces RX5 ({ frames := 3, cells := 0, slots := 0, locals := 66 } : Room)) (x0 : Int64) (x3 : Int32) (x2 : Int32) (x4 : Int32) (x : ((Int32) × (Int32)) ⊕ ((Int32))) (hm : fX5_emptyPlaces_L10b x0 x3 x2 x4 = some x) (hb : (∀ (x2' : Int32) (x4' : Int32), x = Sum.inl (x2', x4') → V Γ 5 0 0 10 [(0, .long x0), (2, .int x2'), (3, .int x3), (4, .int x4')] [] [])) (he0 : (∀ (x2' : Int32), x = Sum.inr x2' → V Γ 5 0 0 34 [(2, .int x2')] [] [])) : V Γ 5 0 0 10 [(0, .long x0), (2, .int x2), (3, .int x3), (4, .int x4)] [] [] := by
  unfold fX5_emptyPlaces_L10b at hm
  refine V_iload C 3 dX5_emptyPlaces_10 rfl ?_
  refine V_iload_n C 2 dX5_emptyPlaces_12 rfl rfl ?_
  refine V_icmp_ge C 34 dX5_emptyPlaces_13 (by decide) (fun c_3 => ?_) (fun c_3 => ?_)
  · have hm := ite_t c_3 hm
    refine V_lload_n C 0 dX5_emptyPlaces_16 rfl rfl ?_
    refine V_iload C 3 dX5_emptyPlaces_17 rfl ?_
    obtain ⟨r_4, hc_5, hm⟩ := bnd hm
    refine V_callSI C (As := [.long x0, .int x4]) (wr := []) (ws2 := []) (kX5_digit x0 x4 r_4 hc_5) gX5_emptyPlaces_X5_digit rfl ⟨rfl, rfl⟩ hdX5_digit ⟨Nat.le_of_ble_eq_true rfl, Nat.le_of_ble_eq_true rfl⟩ ⟨Nat.zero_le _, Nat.zero_le _⟩ [] [] [] rfl rfl ⟨rfl, rfl, rfl⟩ (by decide) rfl rfl (Nat.le_of_ble_eq_true rfl) dX5_emptyPlaces_19 ?_
    refine V_if_ne C 28 dX5_emptyPlaces_22 (by decide) (fun c_6 => ?_) (fun c_6 => ?_)
    · have hm := ite_t c_6 hm
      refine V_iinc C 1 (v := x2 + (1 : Int32)) (lv' := [(2, .int (x2 + (1 : Int32))), (0, .long x0), (3, .int x3), (4, .int x4)]) dX5_emptyPlaces_25 rfl rfl (by decide) rfl ?_
      refine V_iinc C 3 (v := x4 + (1 : Int32)) (lv' := [(4, .int (x4 + (1 : Int32))), (2, .int (x2 + (1 : Int32))), (0, .long x0), (3, .int x3)]) dX5_emptyPlaces_28 rfl rfl (by decide) rfl ?_
      refine V_goto C 10 dX5_emptyPlaces_31 (by decide) ?_
      refine V_lv [2, 1, 3, 0] rfl ?_
      exact hb (x2 + (1 : Int32)) (x4 + (1 : Int32)) (Option.some.inj hm).symm
    · have hm := ite_f c_6 hm
      refine V_iinc C 3 (v := x4 + (1 : Int32)) (lv' := [(4, .int (x4 + (1 : Int32))), (0, .long x0), (2, .int x2), (3, .int x3)]) dX5_emptyPlaces_28 rfl rfl (by decide) rfl ?_
      refine V_goto C 10 dX5_emptyPlaces_31 (by decide) ?_
      refine V_lv [1, 2, 3, 0] rfl ?_
      exact hb x2 (x4 + (1 : Int32)) (Option.some.inj hm).symm
  · have hm := ite_f c_3 hm
    refine V_lv [1] rfl ?_
    exact he0 x2 (Option.some.inj hm).symm
theorem lX5_emptyPlaces_L10 {Γ : KT} (C : CX Γ cX5_emptyPlaces 5 wsX5_emptyPlaces RX5 ({ frames := 3, cells := 0, slots := 0, locals := 66 } : Room)) (x0 : Int64) (x3 : Int32) (x2 : Int32) (x4 : Int32) (N : Nat) (e : (Int32)) (hN : itr (fX5_emptyPlaces_L10 x0 x3) N (x2, x4) = some e) (he0 : (∀ (x2' : Int32), e = x2' → V Γ 5 0 0 34 [(2, .int x2')] [] [])) : V Γ 5 0 0 10 [(0, .long x0), (2, .int x2), (3, .int x3), (4, .int x4)] [] [] := by
  induction N generalizing x2 x4 with
  | zero => exact absurd hN (fun h => itr_0 h)
  | succ N ih =>
    obtain ⟨x, hx, hN⟩ := itr_s hN
    refine bX5_emptyPlaces_L10 C x0 x3 x2 x4 x hx (fun x2' x4' h => ih x2' x4' (by subst h; exact hN)) (fun y0 h => he0 y0 (by subst h; exact (Option.some.inj hN).symm))
def fX5_emptyPlaces (p0 : Int64) : Option ((Int32)) := Option.bind (fX5_highestPlace p0) (fun r_1 => Option.bind (itr (fX5_emptyPlaces_L10 p0 r_1) KF ((0 : Int32), (0 : Int32))) (fun x2_9 => some x2_9))
set_option maxHeartbeats 4000000 in
set_option maxRecDepth 100000 in
theorem kX5_emptyPlaces {l : Launch} (p0 : Int64) (r : Int32) (hm : fX5_emptyPlaces p0 = some r) : CtI l yX5_emptyPlaces wsX5_emptyPlaces ({ frames := 3, cells := 0, slots := 0, locals := 66 } : Room) [.long p0] [] r [] := by
  refine CtI_of (cc := cX5_emptyPlaces) (maxL := 5) (ty := .int) (own := RX5) rfl (by decide) rfl (lv0 := [(0, .long p0)]) rfl (Nat.le_of_ble_eq_true rfl) (fun Γ hL C hR => ?_)
  subst hL
  unfold fX5_emptyPlaces at hm
  refine V_iconst C (v := (0 : Int32)) dX5_emptyPlaces_0 (by decide) ?_
  refine V_istore_n C (lv' := [(2, .int (0 : Int32)), (0, .long p0)]) dX5_emptyPlaces_1 rfl (by decide) rfl ?_
  refine V_lload_n C 1 dX5_emptyPlaces_2 rfl rfl ?_
  obtain ⟨r_1, hc_2, hm⟩ := bnd hm
  refine V_callSI C (As := [.long p0]) (wr := []) (ws2 := []) (kX5_highestPlace p0 r_1 hc_2) gX5_emptyPlaces_X5_highestPlace rfl ⟨rfl, rfl⟩ hdX5_highestPlace ⟨Nat.le_of_ble_eq_true rfl, Nat.le_of_ble_eq_true rfl⟩ ⟨Nat.zero_le _, Nat.zero_le _⟩ [] [] [] rfl rfl ⟨rfl, rfl, rfl⟩ (by decide) rfl rfl (Nat.le_of_ble_eq_true rfl) dX5_emptyPlaces_3 ?_
  refine V_istore_n C (lv' := [(3, .int r_1), (2, .int (0 : Int32)), (0, .long p0)]) dX5_emptyPlaces_6 rfl (by decide) rfl ?_
  refine V_iconst C (v := (0 : Int32)) dX5_emptyPlaces_7 (by decide) ?_
  refine V_istore C (lv' := [(4, .int (0 : Int32)), (3, .int r_1), (2, .int (0 : Int32)), (0, .long p0)]) dX5_emptyPlaces_8 (by decide) rfl ?_
  obtain ⟨x2_9, hE_8, hm⟩ := bnd hm
  refine V_lv [3, 2, 1, 0] rfl ?_
  refine lX5_emptyPlaces_L10 C p0 r_1 (0 : Int32) (0 : Int32) KF _ hE_8 ?_
  intro q_10 hq
  cases hq
  refine V_iload_n C 0 dX5_emptyPlaces_34 rfl rfl ?_
  cases hm
  exact hR _ _ rfl dX5_emptyPlaces_35
theorem hdX5_emptyPlaces : yX5_emptyPlaces.cls ≠ "java/lang/invoke/MethodHandle" ∧ yX5_emptyPlaces.cls ≠ "java/lang/invoke/VarHandle" ∧ (parseMethodDescriptor yX5_emptyPlaces.desc).map (fun d => d.parameters.length) = some 1 := by decide +kernel
-- RodBoard$Rods.product(JJ)J
theorem mX5_product_1 : Cond.methodLink RX5 23 Lib.MathLoose.abs_long.x ∈ wsX5_product := List.mem_of_getElem? (i := 1) rfl
theorem mX5_product_2 : Cond.static Lib.MathLoose.abs_long.x ∈ wsX5_product := List.mem_of_getElem? (i := 2) rfl
theorem mX5_product_3 : Cond.initialized "java/lang/Math" ∈ wsX5_product := List.mem_of_getElem? (i := 3) rfl
theorem mX5_product_4 : Cond.code Lib.MathLoose.abs_long.x Lib.MathLoose.abs_long.code 2 (some .long) ∈ wsX5_product := List.mem_of_getElem? (i := 4) rfl
theorem mX5_product_5 : Cond.constantLong RX5 39 (999999999999) ∈ wsX5_product := List.mem_of_getElem? (i := 5) rfl
theorem mX5_product_6 : Cond.constantLong RX5 41 (-1000000000000000) ∈ wsX5_product := List.mem_of_getElem? (i := 6) rfl
def fX5_product (p0 : Int64) (p1 : Int64) : Option ((Int64)) := if (jabs p1) = (0 : Int64) then some (0 : Int64) else Option.bind (dvJ (999999999999 : Int64) (jabs p1)) (fun v_2 => if v_2 < (jabs p0) then some (-1000000000000000 : Int64) else some (p0 * p1))
set_option maxHeartbeats 4000000 in
set_option maxRecDepth 100000 in
theorem kX5_product {l : Launch} (p0 : Int64) (p1 : Int64) (r : Int64) (hm : fX5_product p0 p1 = some r) : CtL l yX5_product wsX5_product ({ frames := 1, cells := 0, slots := 0, locals := 13 } : Room) [.long p0, .long p1] [] r [] := by
  refine CtL_of (cc := cX5_product) (maxL := 6) (own := RX5) rfl (by decide) rfl (lv0 := [(0, .long p0), (2, .long p1)]) rfl (Nat.le_of_ble_eq_true rfl) (fun Γ hL C hR => ?_)
  subst hL
  unfold fX5_product at hm
  refine V_lload_n C 1 dX5_product_0 rfl rfl ?_
  refine V_abs C mX5_product_1 mX5_product_2 mX5_product_3 mX5_product_4 ⟨Nat.le_of_ble_eq_true rfl, Nat.le_of_ble_eq_true rfl⟩ ⟨Nat.zero_le _, Nat.zero_le _⟩ dX5_product_1 ?_
  refine V_lstore C (lv' := [(4, .long (jabs p1)), (0, .long p0), (2, .long p1)]) dX5_product_4 (by decide) rfl ?_
  refine V_lload C 0 dX5_product_6 rfl ?_
  refine V_lconst C (v := (0 : Int64)) dX5_product_8 (by decide) ?_
  refine V_lcmp_ne C 15 dX5_product_9 dX5_product_10 (by decide) (fun c_1 => ?_) (fun c_1 => ?_)
  · have hm := ite_t c_1 hm
    refine V_lconst C (v := (0 : Int64)) dX5_product_13 (by decide) ?_
    cases hm
    exact hR _ _ dX5_product_14
  · have hm := ite_f c_1 hm
    refine V_lload_n C 1 dX5_product_15 rfl rfl ?_
    refine V_abs C mX5_product_1 mX5_product_2 mX5_product_3 mX5_product_4 ⟨Nat.le_of_ble_eq_true rfl, Nat.le_of_ble_eq_true rfl⟩ ⟨Nat.zero_le _, Nat.zero_le _⟩ dX5_product_16 ?_
    refine V_ldc2 C (v := (999999999999 : Int64)) mX5_product_5 dX5_product_19 ?_
    refine V_lload C 0 dX5_product_22 rfl ?_
    obtain ⟨v_2, hv_2, hm⟩ := bnd hm
    refine V_ldiv C hv_2 dX5_product_24 ?_
    refine V_lcmp_le C 35 dX5_product_25 dX5_product_26 (by decide) (fun c_3 => ?_) (fun c_3 => ?_)
    · have hm := ite_t c_3 hm
      refine V_ldc2 C (v := (-1000000000000000 : Int64)) mX5_product_6 dX5_product_29 ?_
      refine V_goto C 38 dX5_product_32 (by decide) ?_
      cases hm
      exact hR _ _ dX5_product_38
    · have hm := ite_f c_3 hm
      refine V_lload_n C 1 dX5_product_35 rfl rfl ?_
      refine V_lload_n C 2 dX5_product_36 rfl rfl ?_
      refine V_lmul C dX5_product_37 ?_
      cases hm
      exact hR _ _ dX5_product_38
theorem hdX5_product : yX5_product.cls ≠ "java/lang/invoke/MethodHandle" ∧ yX5_product.cls ≠ "java/lang/invoke/VarHandle" ∧ (parseMethodDescriptor yX5_product.desc).map (fun d => d.parameters.length) = some 2 := by decide +kernel
-- RodBoard$Rods.power(JI)J
theorem mX5_power_1 : Cond.constantLong RX5 43 (1000000) ∈ wsX5_power := List.mem_of_getElem? (i := 1) rfl
theorem mX5_power_3 : Cond.constantLong RX5 41 (-1000000000000000) ∈ wsX5_power := List.mem_of_getElem? (i := 3) rfl
theorem mX5_power_2 : Cond.constantLong RX5 45 (10000) ∈ wsX5_power := List.mem_of_getElem? (i := 2) rfl
def fX5_power_B14 (x0 : Int64) (x2 : Int32) (s0 : Int64) : Option ((Int64)) := if (-s0) < x0 then if x0 < s0 then if x2 = (2 : Int32) then some (x0 * x0) else some ((x0 * x0) * x0) else some (-1000000000000000 : Int64) else some (-1000000000000000 : Int64)
set_option maxHeartbeats 4000000 in
set_option maxRecDepth 100000 in
theorem jX5_power_B14 {Γ : KT} (C : CX Γ cX5_power 5 wsX5_power RX5 ({ frames := 0, cells := 0, slots := 0, locals := 0 } : Room)) (x0 : Int64) (x2 : Int32) (s0 : Int64) (r : Int64) (hm : fX5_power_B14 x0 x2 s0 = some r) (hR : (∀ (pc : Nat) (lv : List (Nat × Value)), decode cX5_power pc = .ok (.lreturn, 1) → V Γ 5 0 0 pc lv [.long r] [])) : V Γ 5 0 0 14 [(0, .long x0), (2, .int x2)] [.long s0] [] := by
  unfold fX5_power_B14 at hm
  refine V_lstore_n C (lv' := [(3, .long s0), (0, .long x0), (2, .int x2)]) dX5_power_14 rfl (by decide) rfl ?_
  refine V_lload_n C 1 dX5_power_15 rfl rfl ?_
  refine V_lload_n C 0 dX5_power_16 rfl rfl ?_
  refine V_lneg C dX5_power_17 ?_
  refine V_lcmp_le C 28 dX5_power_18 dX5_power_19 (by decide) (fun c_2 => ?_) (fun c_2 => ?_)
  · have hm := ite_t c_2 hm
    refine V_lload_n C 1 dX5_power_22 rfl rfl ?_
    refine V_lload_n C 0 dX5_power_23 rfl rfl ?_
    refine V_lcmp_lt C 32 dX5_power_24 dX5_power_25 (by decide) (fun c_3 => ?_) (fun c_3 => ?_)
    · have hm := ite_t c_3 hm
      refine V_iload_n C 2 dX5_power_32 rfl rfl ?_
      refine V_iconst C (v := (2 : Int32)) dX5_power_33 (by decide) ?_
      refine V_icmp_ne C 43 dX5_power_34 (by decide) (fun c_4 => ?_) (fun c_4 => ?_)
      · have hm := ite_t c_4 hm
        refine V_lload_n C 1 dX5_power_37 rfl rfl ?_
        refine V_lload_n C 1 dX5_power_38 rfl rfl ?_
        refine V_lmul C dX5_power_39 ?_
        refine V_goto C 48 dX5_power_40 (by decide) ?_
        cases hm
        exact hR _ _ dX5_power_48
      · have hm := ite_f c_4 hm
        refine V_lload_n C 1 dX5_power_43 rfl rfl ?_
        refine V_lload_n C 1 dX5_power_44 rfl rfl ?_
        refine V_lmul C dX5_power_45 ?_
        refine V_lload_n C 1 dX5_power_46 rfl rfl ?_
        refine V_lmul C dX5_power_47 ?_
        cases hm
        exact hR _ _ dX5_power_48
    · have hm := ite_f c_3 hm
      refine V_ldc2 C (v := (-1000000000000000 : Int64)) mX5_power_3 dX5_power_28 ?_
      cases hm
      exact hR _ _ dX5_power_31
  · have hm := ite_f c_2 hm
    refine V_ldc2 C (v := (-1000000000000000 : Int64)) mX5_power_3 dX5_power_28 ?_
    cases hm
    exact hR _ _ dX5_power_31
def fX5_power (p0 : Int64) (p1 : Int32) : Option ((Int64)) := if p1 = (2 : Int32) then fX5_power_B14 p0 p1 (1000000 : Int64) else fX5_power_B14 p0 p1 (10000 : Int64)
set_option maxHeartbeats 4000000 in
set_option maxRecDepth 100000 in
theorem kX5_power {l : Launch} (p0 : Int64) (p1 : Int32) (r : Int64) (hm : fX5_power p0 p1 = some r) : CtL l yX5_power wsX5_power ({ frames := 0, cells := 0, slots := 0, locals := 0 } : Room) [.long p0, .int p1] [] r [] := by
  refine CtL_of (cc := cX5_power) (maxL := 5) (own := RX5) rfl (by decide) rfl (lv0 := [(0, .long p0), (2, .int p1)]) rfl (Nat.le_of_ble_eq_true rfl) (fun Γ hL C hR => ?_)
  subst hL
  unfold fX5_power at hm
  refine V_iload_n C 1 dX5_power_0 rfl rfl ?_
  refine V_iconst C (v := (2 : Int32)) dX5_power_1 (by decide) ?_
  refine V_icmp_ne C 11 dX5_power_2 (by decide) (fun c_1 => ?_) (fun c_1 => ?_)
  · have hm := ite_t c_1 hm
    refine V_ldc2 C (v := (1000000 : Int64)) mX5_power_1 dX5_power_5 ?_
    refine V_goto C 14 dX5_power_8 (by decide) ?_
    refine V_lv [0, 1] rfl ?_
    exact jX5_power_B14 C p0 p1 (1000000 : Int64) _ hm hR
  · have hm := ite_f c_1 hm
    refine V_ldc2 C (v := (10000 : Int64)) mX5_power_2 dX5_power_11 ?_
    refine V_lv [0, 1] rfl ?_
    exact jX5_power_B14 C p0 p1 (10000 : Int64) _ hm hR
theorem hdX5_power : yX5_power.cls ≠ "java/lang/invoke/MethodHandle" ∧ yX5_power.cls ≠ "java/lang/invoke/VarHandle" ∧ (parseMethodDescriptor yX5_power.desc).map (fun d => d.parameters.length) = some 2 := by decide +kernel
-- RodBoard$Rods.greatestPart(JJ)J
theorem mX5_greatestPart_1 : Cond.methodLink RX5 23 Lib.MathLoose.abs_long.x ∈ wsX5_greatestPart := List.mem_of_getElem? (i := 1) rfl
theorem mX5_greatestPart_2 : Cond.static Lib.MathLoose.abs_long.x ∈ wsX5_greatestPart := List.mem_of_getElem? (i := 2) rfl
theorem mX5_greatestPart_3 : Cond.initialized "java/lang/Math" ∈ wsX5_greatestPart := List.mem_of_getElem? (i := 3) rfl
theorem mX5_greatestPart_4 : Cond.code Lib.MathLoose.abs_long.x Lib.MathLoose.abs_long.code 2 (some .long) ∈ wsX5_greatestPart := List.mem_of_getElem? (i := 4) rfl
def fX5_greatestPart_L15b (x4 : Int64) (x6 : Int64) (x8 : Int32) : Option (((Int64) × (Int64) × (Int32)) ⊕ ((Int64))) := if x8 < (1000 : Int32) then if x6 = (0 : Int64) then some (Sum.inr x4) else Option.bind (rmJ x4 x6) (fun v_3 => some (Sum.inl (x6, v_3, x8 + (1 : Int32)))) else some (Sum.inr x4)
def fX5_greatestPart_L15 : ((Int64) × (Int64) × (Int32)) → Option (((Int64) × (Int64) × (Int32)) ⊕ ((Int64))) := fun e => fX5_greatestPart_L15b  e.1 e.2.1 e.2.2
set_option maxHeartbeats 4000000 in
set_option maxRecDepth 100000 in
theorem bX5_greatestPart_L15 {Γ : KT} (C : CX Γ cX5_greatestPart 11 wsX5_greatestPart RX5 ({ frames := 1, cells := 0, slots := 0, locals := 13 } : Room)) (x4 : Int64) (x6 : Int64) (x8 : Int32) (x : ((Int64) × (Int64) × (Int32)) ⊕ ((Int64))) (hm : fX5_greatestPart_L15b x4 x6 x8 = some x) (hb : (∀ (x4' : Int64) (x6' : Int64) (x8' : Int32), x = Sum.inl (x4', x6', x8') → V Γ 11 0 0 15 [(4, .long x4'), (6, .long x6'), (8, .int x8')] [] [])) (he0 : (∀ (x4' : Int64), x = Sum.inr x4' → V Γ 11 0 0 51 [(4, .long x4')] [] [])) : V Γ 11 0 0 15 [(4, .long x4), (6, .long x6), (8, .int x8)] [] [] := by
  unfold fX5_greatestPart_L15b at hm
  refine V_iload C 2 dX5_greatestPart_15 rfl ?_
  refine V_sipush C (v := (1000 : Int32)) dX5_greatestPart_17 (by decide) ?_
  refine V_icmp_ge C 51 dX5_greatestPart_20 (by decide) (fun c_1 => ?_) (fun c_1 => ?_)
  · have hm := ite_t c_1 hm
    refine V_lload C 1 dX5_greatestPart_23 rfl ?_
    refine V_lconst C (v := (0 : Int64)) dX5_greatestPart_25 (by decide) ?_
    refine V_lcmp_eq C 51 dX5_greatestPart_26 dX5_greatestPart_27 (by decide) (fun c_2 => ?_) (fun c_2 => ?_)
    · have hm := ite_t c_2 hm
      refine V_lv [0] rfl ?_
      exact he0 x4 (Option.some.inj hm).symm
    · have hm := ite_f c_2 hm
      refine V_lload C 0 dX5_greatestPart_30 rfl ?_
      refine V_lload C 1 dX5_greatestPart_32 rfl ?_
      obtain ⟨v_3, hv_3, hm⟩ := bnd hm
      refine V_lrem C hv_3 dX5_greatestPart_34 ?_
      refine V_lstore C (lv' := [(9, .long v_3), (4, .long x4), (6, .long x6), (8, .int x8)]) dX5_greatestPart_35 (by decide) rfl ?_
      refine V_lload C 2 dX5_greatestPart_37 rfl ?_
      refine V_lstore C (lv' := [(4, .long x6), (9, .long v_3), (6, .long x6), (8, .int x8)]) dX5_greatestPart_39 (by decide) rfl ?_
      refine V_lload C 1 dX5_greatestPart_41 rfl ?_
      refine V_lstore C (lv' := [(6, .long v_3), (4, .long x6), (9, .long v_3), (8, .int x8)]) dX5_greatestPart_43 (by decide) rfl ?_
      refine V_iinc C 3 (v := x8 + (1 : Int32)) (lv' := [(8, .int (x8 + (1 : Int32))), (6, .long v_3), (4, .long x6), (9, .long v_3)]) dX5_greatestPart_45 rfl rfl (by decide) rfl ?_
      refine V_goto C 15 dX5_greatestPart_48 (by decide) ?_
      refine V_lv [2, 1, 0] rfl ?_
      exact hb x6 v_3 (x8 + (1 : Int32)) (Option.some.inj hm).symm
  · have hm := ite_f c_1 hm
    refine V_lv [0] rfl ?_
    exact he0 x4 (Option.some.inj hm).symm
theorem lX5_greatestPart_L15 {Γ : KT} (C : CX Γ cX5_greatestPart 11 wsX5_greatestPart RX5 ({ frames := 1, cells := 0, slots := 0, locals := 13 } : Room)) (x4 : Int64) (x6 : Int64) (x8 : Int32) (N : Nat) (e : (Int64)) (hN : itr (fX5_greatestPart_L15) N (x4, x6, x8) = some e) (he0 : (∀ (x4' : Int64), e = x4' → V Γ 11 0 0 51 [(4, .long x4')] [] [])) : V Γ 11 0 0 15 [(4, .long x4), (6, .long x6), (8, .int x8)] [] [] := by
  induction N generalizing x4 x6 x8 with
  | zero => exact absurd hN (fun h => itr_0 h)
  | succ N ih =>
    obtain ⟨x, hx, hN⟩ := itr_s hN
    refine bX5_greatestPart_L15 C x4 x6 x8 x hx (fun x4' x6' x8' h => ih x4' x6' x8' (by subst h; exact hN)) (fun y0 h => he0 y0 (by subst h; exact (Option.some.inj hN).symm))
def fX5_greatestPart (p0 : Int64) (p1 : Int64) : Option ((Int64)) := Option.bind (itr (fX5_greatestPart_L15) KF (jabs p0, jabs p1, (0 : Int32))) (fun x4_6 => some x4_6)
set_option maxHeartbeats 4000000 in
set_option maxRecDepth 100000 in
theorem kX5_greatestPart {l : Launch} (p0 : Int64) (p1 : Int64) (r : Int64) (hm : fX5_greatestPart p0 p1 = some r) : CtL l yX5_greatestPart wsX5_greatestPart ({ frames := 1, cells := 0, slots := 0, locals := 13 } : Room) [.long p0, .long p1] [] r [] := by
  refine CtL_of (cc := cX5_greatestPart) (maxL := 11) (own := RX5) rfl (by decide) rfl (lv0 := [(0, .long p0), (2, .long p1)]) rfl (Nat.le_of_ble_eq_true rfl) (fun Γ hL C hR => ?_)
  subst hL
  unfold fX5_greatestPart at hm
  refine V_lload_n C 0 dX5_greatestPart_0 rfl rfl ?_
  refine V_abs C mX5_greatestPart_1 mX5_greatestPart_2 mX5_greatestPart_3 mX5_greatestPart_4 ⟨Nat.le_of_ble_eq_true rfl, Nat.le_of_ble_eq_true rfl⟩ ⟨Nat.zero_le _, Nat.zero_le _⟩ dX5_greatestPart_1 ?_
  refine V_lstore C (lv' := [(4, .long (jabs p0)), (0, .long p0), (2, .long p1)]) dX5_greatestPart_4 (by decide) rfl ?_
  refine V_lload_n C 2 dX5_greatestPart_6 rfl rfl ?_
  refine V_abs C mX5_greatestPart_1 mX5_greatestPart_2 mX5_greatestPart_3 mX5_greatestPart_4 ⟨Nat.le_of_ble_eq_true rfl, Nat.le_of_ble_eq_true rfl⟩ ⟨Nat.zero_le _, Nat.zero_le _⟩ dX5_greatestPart_7 ?_
  refine V_lstore C (lv' := [(6, .long (jabs p1)), (4, .long (jabs p0)), (0, .long p0), (2, .long p1)]) dX5_greatestPart_10 (by decide) rfl ?_
  refine V_iconst C (v := (0 : Int32)) dX5_greatestPart_12 (by decide) ?_
  refine V_istore C (lv' := [(8, .int (0 : Int32)), (6, .long (jabs p1)), (4, .long (jabs p0)), (0, .long p0), (2, .long p1)]) dX5_greatestPart_13 (by decide) rfl ?_
  obtain ⟨x4_6, hE_5, hm⟩ := bnd hm
  refine V_lv [2, 1, 0] rfl ?_
  refine lX5_greatestPart_L15 C (jabs p0) (jabs p1) (0 : Int32) KF _ hE_5 ?_
  intro q_7 hq
  cases hq
  refine V_lload C 0 dX5_greatestPart_51 rfl ?_
  cases hm
  exact hR _ _ dX5_greatestPart_53
theorem hdX5_greatestPart : yX5_greatestPart.cls ≠ "java/lang/invoke/MethodHandle" ∧ yX5_greatestPart.cls ≠ "java/lang/invoke/VarHandle" ∧ (parseMethodDescriptor yX5_greatestPart.desc).map (fun d => d.parameters.length) = some 2 := by decide +kernel
-- RodBoard.isRow(I)Z
def fX8_isRow (p0 : Int32) : Option ((Int32)) := if p0 < (0 : Int32) then some (0 : Int32) else if p0 < (8 : Int32) then some (1 : Int32) else some (0 : Int32)
set_option maxHeartbeats 4000000 in
set_option maxRecDepth 100000 in
theorem kX8_isRow {l : Launch} (p0 : Int32) (r : Int32) (hm : fX8_isRow p0 = some r) : CtI l yX8_isRow wsX8_isRow ({ frames := 0, cells := 0, slots := 0, locals := 0 } : Room) [.int p0] [] r [] := by
  refine CtI_of (cc := cX8_isRow) (maxL := 1) (ty := .boolean) (own := RX8) rfl (by decide) rfl (lv0 := [(0, .int p0)]) rfl (Nat.le_of_ble_eq_true rfl) (fun Γ hL C hR => ?_)
  subst hL
  unfold fX8_isRow at hm
  refine V_iload_n C 0 dX8_isRow_0 rfl rfl ?_
  refine V_if_lt C 14 dX8_isRow_1 (by decide) (fun c_1 => ?_) (fun c_1 => ?_)
  · have hm := ite_t c_1 hm
    refine V_iconst C (v := (0 : Int32)) dX8_isRow_14 (by decide) ?_
    cases hm
    exact hR _ _ rfl dX8_isRow_15
  · have hm := ite_f c_1 hm
    refine V_iload_n C 0 dX8_isRow_4 rfl rfl ?_
    refine V_bipush C (v := (8 : Int32)) dX8_isRow_5 (by decide) ?_
    refine V_icmp_ge C 14 dX8_isRow_7 (by decide) (fun c_2 => ?_) (fun c_2 => ?_)
    · have hm := ite_t c_2 hm
      refine V_iconst C (v := (1 : Int32)) dX8_isRow_10 (by decide) ?_
      refine V_goto C 15 dX8_isRow_11 (by decide) ?_
      cases hm
      exact hR _ _ rfl dX8_isRow_15
    · have hm := ite_f c_2 hm
      refine V_iconst C (v := (0 : Int32)) dX8_isRow_14 (by decide) ?_
      cases hm
      exact hR _ _ rfl dX8_isRow_15
theorem hdX8_isRow : yX8_isRow.cls ≠ "java/lang/invoke/MethodHandle" ∧ yX8_isRow.cls ≠ "java/lang/invoke/VarHandle" ∧ (parseMethodDescriptor yX8_isRow.desc).map (fun d => d.parameters.length) = some 1 := by decide +kernel
