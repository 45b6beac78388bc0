theorem nw_cX8_X7_init : Cond.methodLinkNest RX8 9 yX7_init RX8 ∈ NWS := List.mem_of_getElem? (i := 5) rfl
theorem nw_cX7_X3_init : Cond.methodLinkNest RX7 17 yX3_init RX8 ∈ NWS := List.mem_of_getElem? (i := 6) rfl
theorem nw_cX8_X6_init : Cond.methodLinkNest RX8 18 yX6_init RX8 ∈ NWS := List.mem_of_getElem? (i := 7) rfl
theorem nw_cX8_X1_init : Cond.methodLinkNest RX8 25 yX1_init RX8 ∈ NWS := List.mem_of_getElem? (i := 8) rfl
theorem nw_cX1_X3_init : Cond.methodLinkNest RX1 11 yX3_init RX8 ∈ NWS := List.mem_of_getElem? (i := 9) rfl
theorem nw_cX8_X0_init : Cond.methodLinkNest RX8 32 yX0_init RX8 ∈ NWS := List.mem_of_getElem? (i := 10) rfl
theorem nw_cX8_X2_init : Cond.methodLinkNest RX8 39 yX2_init RX8 ∈ NWS := List.mem_of_getElem? (i := 11) rfl
-- RodBoard$Course.<init>
theorem mX3_init_1 : Cond.methodLink RX3 3 objectInit ∈ wsX3_init := List.mem_of_getElem? (i := 1) rfl
theorem mX3_init_2 : Cond.instanceMethod objectInit ∈ wsX3_init := List.mem_of_getElem? (i := 2) rfl
theorem mX3_init_3 : Cond.code objectInit ⟨#[0xb1]⟩ 1 none ∈ wsX3_init := List.mem_of_getElem? (i := 3) rfl
theorem mX3_init_4 : Cond.arrayClass .long ∈ wsX3_init := List.mem_of_getElem? (i := 4) rfl
theorem uX3_init_X3 : ∀ w ∈ wsX30, w ∈ wsX3_init := fun _ h => List.mem_cons_of_mem _ (List.mem_append_right _ h)
theorem mX3_init_5 : Cond.fieldLink RX3 11 "RodBoard$Course" "cells" "[J" ∈ wsX3_init := List.mem_of_getElem? (i := 5) rfl
theorem mX3_init_6 : Cond.arrayClass .int ∈ wsX3_init := List.mem_of_getElem? (i := 6) rfl
theorem mX3_init_7 : Cond.fieldLink RX3 15 "RodBoard$Course" "notes" "[I" ∈ wsX3_init := List.mem_of_getElem? (i := 7) rfl
set_option maxHeartbeats 4000000 in
set_option maxRecDepth 100000 in
theorem kX3_init {l : Launch} {h0 : Nat} : CtC l yX3_init wsX3_init ({ frames := 1, cells := 2, slots := 680, locals := 12 } : Room) [.ref h0] [(h0, eO 3 [.null, .null, .int 0])] 2 680 (fun u => ∃ (q8 q17 : Nat), u = [(h0, eO 3 [.ref q8, .ref q17, .int 0]), (q8, eJ 392 (fun _ => 0)), (q17, eI 288 (fun _ => 0))]) := by
  refine CtC_of (cc := cX3_init) (maxL := 1) (own := RX3) rfl (by decide) rfl rfl (lv0 := [(0, .ref h0)]) rfl (Nat.le_of_ble_eq_true rfl) (fun Γ hL C hin hR => ?_)
  subst hL
  refine V_aload_n C 0 dX3_init_0 rfl rfl ?_
  refine V_obj C mX3_init_1 mX3_init_2 mX3_init_3 ⟨Nat.le_of_ble_eq_true rfl, Nat.le_of_ble_eq_true rfl⟩ dX3_init_1 ?_
  refine V_aload_n C 0 dX3_init_4 rfl rfl ?_
  refine V_sipush C (v := (392 : Int32)) dX3_init_5 (by decide) ?_
  refine V_newJ C (N := 392) mX3_init_4 ⟨by decide, by decide, by decide⟩ ⟨Nat.le_of_ble_eq_true rfl, Nat.le_of_ble_eq_true rfl⟩ dX3_init_8 (fun q8 => ?_)
  refine V_putF C hin (ty := .array .long) (v := .ref q8) uX3_init_X3 tyX3 tyX3_ok nmX3 0 0 rfl rfl (by decide) mX3_init_5 rfl rfl (by decide +kernel) rfl rfl (Nat.le_of_ble_eq_true rfl) dX3_init_10 (ws' := [(h0, eO 3 [.ref q8, .null, .int 0]), (q8, eJ 392 (fun _ => 0))]) rfl ?_
  refine V_aload_n C 0 dX3_init_13 rfl rfl ?_
  refine V_sipush C (v := (288 : Int32)) dX3_init_14 (by decide) ?_
  refine V_newI C (N := 288) mX3_init_6 ⟨by decide, by decide, by decide⟩ ⟨Nat.le_of_ble_eq_true rfl, Nat.le_of_ble_eq_true rfl⟩ dX3_init_17 (fun q17 => ?_)
  refine V_putF C hin (ty := .array .int) (v := .ref q17) uX3_init_X3 tyX3 tyX3_ok nmX3 0 1 rfl rfl (by decide) mX3_init_7 rfl rfl (by decide +kernel) rfl rfl (Nat.le_of_ble_eq_true rfl) dX3_init_19 (ws' := [(h0, eO 3 [.ref q8, .ref q17, .int 0]), (q8, eJ 392 (fun _ => 0)), (q17, eI 288 (fun _ => 0))]) rfl ?_
  refine V_perm [0, 1, 2] (ws' := [(h0, eO 3 [.ref q8, .ref q17, .int 0]), (q8, eJ 392 (fun _ => 0)), (q17, eI 288 (fun _ => 0))]) rfl rfl ?_
  exact hR _ _ _ ⟨q8, q17, rfl⟩ dX3_init_22
theorem hdX3_init : yX3_init.cls ≠ "java/lang/invoke/MethodHandle" ∧ yX3_init.cls ≠ "java/lang/invoke/VarHandle" ∧ (parseMethodDescriptor yX3_init.desc).map (fun d => d.parameters.length) = some 0 := by decide +kernel
-- RodBoard$Working.<init>
theorem mX7_init_1 : Cond.methodLink RX7 3 objectInit ∈ wsX7_init := List.mem_of_getElem? (i := 1) rfl
theorem mX7_init_2 : Cond.instanceMethod objectInit ∈ wsX7_init := List.mem_of_getElem? (i := 2) rfl
theorem mX7_init_3 : Cond.code objectInit ⟨#[0xb1]⟩ 1 none ∈ wsX7_init := List.mem_of_getElem? (i := 3) rfl
theorem mX7_init_4 : Cond.arrayClass .long ∈ wsX7_init := List.mem_of_getElem? (i := 4) rfl
theorem uX7_init_X7 : ∀ w ∈ wsX70, w ∈ wsX7_init := fun _ h => List.mem_cons_of_mem _ (List.mem_append_left _ (List.mem_append_right _ h))
theorem mX7_init_5 : Cond.fieldLink RX7 9 "RodBoard$Working" "rows" "[J" ∈ wsX7_init := List.mem_of_getElem? (i := 5) rfl
theorem uX7_init_X3 : ∀ w ∈ wsX30, w ∈ wsX7_init := fun _ h => List.mem_cons_of_mem _ (List.mem_append_right _ h)
theorem mX7_init_6 : Cond.classLink RX7 15 RX3 ∈ wsX7_init := List.mem_of_getElem? (i := 6) rfl
theorem mX7_init_7 : Cond.instantiable RX3 3 ∈ wsX7_init := List.mem_of_getElem? (i := 7) rfl
theorem mX7_init_8 : Cond.initialized RX3 ∈ wsX7_init := List.mem_of_getElem? (i := 8) rfl
theorem mX7_init_10 : Cond.instanceMethod yX3_init ∈ wsX7_init := List.mem_of_getElem? (i := 10) rfl
theorem mX7_init_9 : Cond.fieldLink RX7 18 "RodBoard$Working" "course" "LRodBoard$Course;" ∈ wsX7_init := List.mem_of_getElem? (i := 9) rfl
set_option maxHeartbeats 4000000 in
set_option maxRecDepth 100000 in
theorem kX7_init {l : Launch} {h0 : Nat} : CtC l yX7_init wsX7_init ({ frames := 2, cells := 4, slots := 691, locals := 32 } : Room) [.ref h0] [(h0, eO 5 [.null, .null])] 4 691 (fun u => ∃ (q7 q13 q8_17 q17_17 : Nat), u = [(h0, eO 5 [.ref q7, .ref q13]), (q7, eJ 8 (fun _ => 0)), (q13, eO 3 [.ref q8_17, .ref q17_17, .int 0]), (q8_17, eJ 392 (fun _ => 0)), (q17_17, eI 288 (fun _ => 0))]) := by
  refine CtC_of (cc := cX7_init) (maxL := 1) (own := RX7) rfl (by decide) rfl rfl (lv0 := [(0, .ref h0)]) rfl (Nat.le_of_ble_eq_true rfl) (fun Γ hL C hin hR => ?_)
  subst hL
  refine V_aload_n C 0 dX7_init_0 rfl rfl ?_
  refine V_obj C mX7_init_1 mX7_init_2 mX7_init_3 ⟨Nat.le_of_ble_eq_true rfl, Nat.le_of_ble_eq_true rfl⟩ dX7_init_1 ?_
  refine V_aload_n C 0 dX7_init_4 rfl rfl ?_
  refine V_bipush C (v := (8 : Int32)) dX7_init_5 (by decide) ?_
  refine V_newJ C (N := 8) mX7_init_4 ⟨by decide, by decide, by decide⟩ ⟨Nat.le_of_ble_eq_true rfl, Nat.le_of_ble_eq_true rfl⟩ dX7_init_7 (fun q7 => ?_)
  refine V_putF C hin (ty := .array .long) (v := .ref q7) uX7_init_X7 tyX7 tyX7_ok nmX7 0 0 rfl rfl (by decide) mX7_init_5 rfl rfl (by decide +kernel) rfl rfl (Nat.le_of_ble_eq_true rfl) dX7_init_9 (ws' := [(h0, eO 5 [.ref q7, .null]), (q7, eJ 8 (fun _ => 0))]) rfl ?_
  refine V_aload_n C 0 dX7_init_12 rfl rfl ?_
  refine V_new C (ci := 3) (fs := [.null, .null, .int 0]) uX7_init_X3 tyX3 tyX3_ok mX7_init_6 mX7_init_7 mX7_init_8 rfl (fun j hj => by rcases (show j = 0 ∨ j = 1 ∨ j = 2 by omega) with rfl | rfl | rfl <;> rfl) ⟨Nat.le_of_ble_eq_true rfl, Nat.le_of_ble_eq_true rfl⟩ dX7_init_13 (fun q13 => ?_)
  refine V_dup C dX7_init_16 rfl ?_
  refine V_callIN C (wc := [(q13, eO 3 [.null, .null, .int 0])]) (wr := [(h0, eO 5 [.ref q7, .null]), (q7, eJ 8 (fun _ => 0))]) (kX3_init (h0 := q13)) ggX7_init_X3_init nw_cX7_X3_init mX7_init_8 mX7_init_10 rfl ⟨rfl, rfl⟩ rfl hdX3_init ⟨Nat.le_of_ble_eq_true rfl, Nat.le_of_ble_eq_true rfl⟩ ⟨Nat.le_of_ble_eq_true rfl, Nat.le_of_ble_eq_true rfl⟩ [2] [0, 1] rfl rfl ⟨rfl, rfl⟩ (by decide) (Nat.le_of_ble_eq_true rfl) dX7_init_17 (fun u hu => ?_)
  obtain ⟨q8_17, q17_17, rfl⟩ := hu
  refine V_putF C hin (ty := .object "RodBoard$Course") (v := .ref q13) uX7_init_X7 tyX7 tyX7_ok nmX7 0 1 rfl rfl (by decide) mX7_init_9 rfl rfl (by decide +kernel) rfl rfl (Nat.le_of_ble_eq_true rfl) dX7_init_20 (ws' := [(h0, eO 5 [.ref q7, .ref q13]), (q7, eJ 8 (fun _ => 0)), (q13, eO 3 [.ref q8_17, .ref q17_17, .int 0]), (q8_17, eJ 392 (fun _ => 0)), (q17_17, eI 288 (fun _ => 0))]) rfl ?_
  refine V_perm [0, 1, 2, 3, 4] (ws' := [(h0, eO 5 [.ref q7, .ref q13]), (q7, eJ 8 (fun _ => 0)), (q13, eO 3 [.ref q8_17, .ref q17_17, .int 0]), (q8_17, eJ 392 (fun _ => 0)), (q17_17, eI 288 (fun _ => 0))]) rfl rfl ?_
  exact hR _ _ _ ⟨q7, q13, q8_17, q17_17, rfl⟩ dX7_init_23
theorem hdX7_init : yX7_init.cls ≠ "java/lang/invoke/MethodHandle" ∧ yX7_init.cls ≠ "java/lang/invoke/VarHandle" ∧ (parseMethodDescriptor yX7_init.desc).map (fun d => d.parameters.length) = some 0 := by decide +kernel
-- RodBoard$Strip.<init>
theorem mX6_init_1 : Cond.methodLink RX6 3 objectInit ∈ wsX6_init := List.mem_of_getElem? (i := 1) rfl
theorem mX6_init_2 : Cond.instanceMethod objectInit ∈ wsX6_init := List.mem_of_getElem? (i := 2) rfl
theorem mX6_init_3 : Cond.code objectInit ⟨#[0xb1]⟩ 1 none ∈ wsX6_init := List.mem_of_getElem? (i := 3) rfl
theorem mX6_init_4 : Cond.arrayClass .int ∈ wsX6_init := List.mem_of_getElem? (i := 4) rfl
theorem uX6_init_X6 : ∀ w ∈ wsX60, w ∈ wsX6_init := fun _ h => List.mem_cons_of_mem _ (List.mem_append_right _ h)
theorem mX6_init_5 : Cond.fieldLink RX6 9 "RodBoard$Strip" "sizes" "[I" ∈ wsX6_init := List.mem_of_getElem? (i := 5) rfl
theorem mX6_init_6 : Cond.fieldLink RX6 15 "RodBoard$Strip" "ways" "[I" ∈ wsX6_init := List.mem_of_getElem? (i := 6) rfl
theorem mX6_init_7 : Cond.fieldLink RX6 18 "RodBoard$Strip" "layouts" "[I" ∈ wsX6_init := List.mem_of_getElem? (i := 7) rfl
set_option maxHeartbeats 4000000 in
set_option maxRecDepth 100000 in
theorem kX6_init {l : Launch} {h0 : Nat} : CtC l yX6_init wsX6_init ({ frames := 1, cells := 3, slots := 193, locals := 12 } : Room) [.ref h0] [(h0, eO 4 [.null, .null, .null, .int 0])] 3 193 (fun u => ∃ (q7 q15 q24 : Nat), u = [(h0, eO 4 [.ref q7, .ref q15, .ref q24, .int 0]), (q7, eI 12 (fun _ => 0)), (q15, eI 12 (fun _ => 0)), (q24, eI 169 (fun _ => 0))]) := by
  refine CtC_of (cc := cX6_init) (maxL := 1) (own := RX6) rfl (by decide) rfl rfl (lv0 := [(0, .ref h0)]) rfl (Nat.le_of_ble_eq_true rfl) (fun Γ hL C hin hR => ?_)
  subst hL
  refine V_aload_n C 0 dX6_init_0 rfl rfl ?_
  refine V_obj C mX6_init_1 mX6_init_2 mX6_init_3 ⟨Nat.le_of_ble_eq_true rfl, Nat.le_of_ble_eq_true rfl⟩ dX6_init_1 ?_
  refine V_aload_n C 0 dX6_init_4 rfl rfl ?_
  refine V_bipush C (v := (12 : Int32)) dX6_init_5 (by decide) ?_
  refine V_newI C (N := 12) mX6_init_4 ⟨by decide, by decide, by decide⟩ ⟨Nat.le_of_ble_eq_true rfl, Nat.le_of_ble_eq_true rfl⟩ dX6_init_7 (fun q7 => ?_)
  refine V_putF C hin (ty := .array .int) (v := .ref q7) uX6_init_X6 tyX6 tyX6_ok nmX6 0 0 rfl rfl (by decide) mX6_init_5 rfl rfl (by decide +kernel) rfl rfl (Nat.le_of_ble_eq_true rfl) dX6_init_9 (ws' := [(h0, eO 4 [.ref q7, .null, .null, .int 0]), (q7, eI 12 (fun _ => 0))]) rfl ?_
  refine V_aload_n C 0 dX6_init_12 rfl rfl ?_
  refine V_bipush C (v := (12 : Int32)) dX6_init_13 (by decide) ?_
  refine V_newI C (N := 12) mX6_init_4 ⟨by decide, by decide, by decide⟩ ⟨Nat.le_of_ble_eq_true rfl, Nat.le_of_ble_eq_true rfl⟩ dX6_init_15 (fun q15 => ?_)
  refine V_putF C hin (ty := .array .int) (v := .ref q15) uX6_init_X6 tyX6 tyX6_ok nmX6 0 1 rfl rfl (by decide) mX6_init_6 rfl rfl (by decide +kernel) rfl rfl (Nat.le_of_ble_eq_true rfl) dX6_init_17 (ws' := [(h0, eO 4 [.ref q7, .ref q15, .null, .int 0]), (q7, eI 12 (fun _ => 0)), (q15, eI 12 (fun _ => 0))]) rfl ?_
  refine V_aload_n C 0 dX6_init_20 rfl rfl ?_
  refine V_sipush C (v := (169 : Int32)) dX6_init_21 (by decide) ?_
  refine V_newI C (N := 169) mX6_init_4 ⟨by decide, by decide, by decide⟩ ⟨Nat.le_of_ble_eq_true rfl, Nat.le_of_ble_eq_true rfl⟩ dX6_init_24 (fun q24 => ?_)
  refine V_putF C hin (ty := .array .int) (v := .ref q24) uX6_init_X6 tyX6 tyX6_ok nmX6 0 2 rfl rfl (by decide) mX6_init_7 rfl rfl (by decide +kernel) rfl rfl (Nat.le_of_ble_eq_true rfl) dX6_init_26 (ws' := [(h0, eO 4 [.ref q7, .ref q15, .ref q24, .int 0]), (q7, eI 12 (fun _ => 0)), (q15, eI 12 (fun _ => 0)), (q24, eI 169 (fun _ => 0))]) rfl ?_
  refine V_perm [0, 1, 2, 3] (ws' := [(h0, eO 4 [.ref q7, .ref q15, .ref q24, .int 0]), (q7, eI 12 (fun _ => 0)), (q15, eI 12 (fun _ => 0)), (q24, eI 169 (fun _ => 0))]) rfl rfl ?_
  exact hR _ _ _ ⟨q7, q15, q24, rfl⟩ dX6_init_29
theorem hdX6_init : yX6_init.cls ≠ "java/lang/invoke/MethodHandle" ∧ yX6_init.cls ≠ "java/lang/invoke/VarHandle" ∧ (parseMethodDescriptor yX6_init.desc).map (fun d => d.parameters.length) = some 0 := by decide +kernel
-- RodBoard$Clerk.<init>
theorem mX1_init_1 : Cond.methodLink RX1 3 objectInit ∈ wsX1_init := List.mem_of_getElem? (i := 1) rfl
theorem mX1_init_2 : Cond.instanceMethod objectInit ∈ wsX1_init := List.mem_of_getElem? (i := 2) rfl
theorem mX1_init_3 : Cond.code objectInit ⟨#[0xb1]⟩ 1 none ∈ wsX1_init := List.mem_of_getElem? (i := 3) rfl
theorem uX1_init_X3 : ∀ w ∈ wsX30, w ∈ wsX1_init := fun _ h => List.mem_cons_of_mem _ (List.mem_append_left _ (List.mem_append_right _ h))
theorem mX1_init_4 : Cond.classLink RX1 9 RX3 ∈ wsX1_init := List.mem_of_getElem? (i := 4) rfl
theorem mX1_init_5 : Cond.instantiable RX3 3 ∈ wsX1_init := List.mem_of_getElem? (i := 5) rfl
theorem mX1_init_6 : Cond.initialized RX3 ∈ wsX1_init := List.mem_of_getElem? (i := 6) rfl
theorem mX1_init_8 : Cond.instanceMethod yX3_init ∈ wsX1_init := List.mem_of_getElem? (i := 8) rfl
theorem uX1_init_X1 : ∀ w ∈ wsX10, w ∈ wsX1_init := fun _ h => List.mem_cons_of_mem _ (List.mem_append_right _ h)
theorem mX1_init_7 : Cond.fieldLink RX1 12 "RodBoard$Clerk" "course" "LRodBoard$Course;" ∈ wsX1_init := List.mem_of_getElem? (i := 7) rfl
set_option maxHeartbeats 4000000 in
set_option maxRecDepth 100000 in
theorem kX1_init {l : Launch} {h0 : Nat} : CtC l yX1_init wsX1_init ({ frames := 2, cells := 3, slots := 683, locals := 32 } : Room) [.ref h0] [(h0, eO 1 [.null])] 3 683 (fun u => ∃ (q5 q8_9 q17_9 : Nat), u = [(h0, eO 1 [.ref q5]), (q5, eO 3 [.ref q8_9, .ref q17_9, .int 0]), (q8_9, eJ 392 (fun _ => 0)), (q17_9, eI 288 (fun _ => 0))]) := by
  refine CtC_of (cc := cX1_init) (maxL := 1) (own := RX1) rfl (by decide) rfl rfl (lv0 := [(0, .ref h0)]) rfl (Nat.le_of_ble_eq_true rfl) (fun Γ hL C hin hR => ?_)
  subst hL
  refine V_aload_n C 0 dX1_init_0 rfl rfl ?_
  refine V_obj C mX1_init_1 mX1_init_2 mX1_init_3 ⟨Nat.le_of_ble_eq_true rfl, Nat.le_of_ble_eq_true rfl⟩ dX1_init_1 ?_
  refine V_aload_n C 0 dX1_init_4 rfl rfl ?_
  refine V_new C (ci := 3) (fs := [.null, .null, .int 0]) uX1_init_X3 tyX3 tyX3_ok mX1_init_4 mX1_init_5 mX1_init_6 rfl (fun j hj => by rcases (show j = 0 ∨ j = 1 ∨ j = 2 by omega) with rfl | rfl | rfl <;> rfl) ⟨Nat.le_of_ble_eq_true rfl, Nat.le_of_ble_eq_true rfl⟩ dX1_init_5 (fun q5 => ?_)
  refine V_dup C dX1_init_8 rfl ?_
  refine V_callIN C (wc := [(q5, eO 3 [.null, .null, .int 0])]) (wr := [(h0, eO 1 [.null])]) (kX3_init (h0 := q5)) ggX1_init_X3_init nw_cX1_X3_init mX1_init_6 mX1_init_8 rfl ⟨rfl, rfl⟩ rfl hdX3_init ⟨Nat.le_of_ble_eq_true rfl, Nat.le_of_ble_eq_true rfl⟩ ⟨Nat.le_of_ble_eq_true rfl, Nat.le_of_ble_eq_true rfl⟩ [1] [0] rfl rfl ⟨rfl, rfl⟩ (by decide) (Nat.le_of_ble_eq_true rfl) dX1_init_9 (fun u hu => ?_)
  obtain ⟨q8_9, q17_9, rfl⟩ := hu
  refine V_putF C hin (ty := .object "RodBoard$Course") (v := .ref q5) uX1_init_X1 tyX1 tyX1_ok nmX1 0 0 rfl rfl (by decide) mX1_init_7 rfl rfl (by decide +kernel) rfl rfl (Nat.le_of_ble_eq_true rfl) dX1_init_12 (ws' := [(h0, eO 1 [.ref q5]), (q5, eO 3 [.ref q8_9, .ref q17_9, .int 0]), (q8_9, eJ 392 (fun _ => 0)), (q17_9, eI 288 (fun _ => 0))]) rfl ?_
  refine V_perm [0, 1, 2, 3] (ws' := [(h0, eO 1 [.ref q5]), (q5, eO 3 [.ref q8_9, .ref q17_9, .int 0]), (q8_9, eJ 392 (fun _ => 0)), (q17_9, eI 288 (fun _ => 0))]) rfl rfl ?_
  exact hR _ _ _ ⟨q5, q8_9, q17_9, rfl⟩ dX1_init_15
theorem hdX1_init : yX1_init.cls ≠ "java/lang/invoke/MethodHandle" ∧ yX1_init.cls ≠ "java/lang/invoke/VarHandle" ∧ (parseMethodDescriptor yX1_init.desc).map (fun d => d.parameters.length) = some 0 := by decide +kernel
-- RodBoard$Clearing.<init>
theorem mX0_init_1 : Cond.methodLink RX0 3 objectInit ∈ wsX0_init := List.mem_of_getElem? (i := 1) rfl
theorem mX0_init_2 : Cond.instanceMethod objectInit ∈ wsX0_init := List.mem_of_getElem? (i := 2) rfl
theorem mX0_init_3 : Cond.code objectInit ⟨#[0xb1]⟩ 1 none ∈ wsX0_init := List.mem_of_getElem? (i := 3) rfl
theorem mX0_init_4 : Cond.arrayClass .int ∈ wsX0_init := List.mem_of_getElem? (i := 4) rfl
theorem uX0_init_X0 : ∀ w ∈ wsX00, w ∈ wsX0_init := fun _ h => List.mem_cons_of_mem _ (List.mem_append_right _ h)
theorem mX0_init_5 : Cond.fieldLink RX0 11 "RodBoard$Clearing" "given" "[I" ∈ wsX0_init := List.mem_of_getElem? (i := 5) rfl
theorem mX0_init_6 : Cond.arrayClass .long ∈ wsX0_init := List.mem_of_getElem? (i := 6) rfl
theorem mX0_init_7 : Cond.fieldLink RX0 15 "RodBoard$Clearing" "numbers" "[J" ∈ wsX0_init := List.mem_of_getElem? (i := 7) rfl
theorem mX0_init_8 : Cond.arrayClass .boolean ∈ wsX0_init := List.mem_of_getElem? (i := 8) rfl
theorem mX0_init_9 : Cond.fieldLink RX0 19 "RodBoard$Clearing" "frees" "[Z" ∈ wsX0_init := List.mem_of_getElem? (i := 9) rfl
theorem mX0_init_10 : Cond.fieldLink RX0 23 "RodBoard$Clearing" "uppers" "[J" ∈ wsX0_init := List.mem_of_getElem? (i := 10) rfl
set_option maxHeartbeats 4000000 in
set_option maxRecDepth 100000 in
theorem kX0_init {l : Launch} {h0 : Nat} : CtC l yX0_init wsX0_init ({ frames := 1, cells := 4, slots := 58, locals := 12 } : Room) [.ref h0] [(h0, eO 0 [.null, .null, .null, .null, .int 0, .int 0, .int 0, .int 0])] 4 58 (fun u => ∃ (q7 q15 q22 q29 : Nat), u = [(h0, eO 0 [.ref q7, .ref q15, .ref q22, .ref q29, .int 0, .int 0, .int 0, .int 0]), (q7, eI 25 (fun _ => 0)), (q15, eJ 25 (fun _ => 0)), (q22, eZ 4 (fun _ => 0)), (q29, eJ 4 (fun _ => 0))]) := by
  refine CtC_of (cc := cX0_init) (maxL := 1) (own := RX0) rfl (by decide) rfl rfl (lv0 := [(0, .ref h0)]) rfl (Nat.le_of_ble_eq_true rfl) (fun Γ hL C hin hR => ?_)
  subst hL
  refine V_aload_n C 0 dX0_init_0 rfl rfl ?_
  refine V_obj C mX0_init_1 mX0_init_2 mX0_init_3 ⟨Nat.le_of_ble_eq_true rfl, Nat.le_of_ble_eq_true rfl⟩ dX0_init_1 ?_
  refine V_aload_n C 0 dX0_init_4 rfl rfl ?_
  refine V_bipush C (v := (25 : Int32)) dX0_init_5 (by decide) ?_
  refine V_newI C (N := 25) mX0_init_4 ⟨by decide, by decide, by decide⟩ ⟨Nat.le_of_ble_eq_true rfl, Nat.le_of_ble_eq_true rfl⟩ dX0_init_7 (fun q7 => ?_)
  refine V_putF C hin (ty := .array .int) (v := .ref q7) uX0_init_X0 tyX0 tyX0_ok nmX0 0 0 rfl rfl (by decide) mX0_init_5 rfl rfl (by decide +kernel) rfl rfl (Nat.le_of_ble_eq_true rfl) dX0_init_9 (ws' := [(h0, eO 0 [.ref q7, .null, .null, .null, .int 0, .int 0, .int 0, .int 0]), (q7, eI 25 (fun _ => 0))]) rfl ?_
  refine V_aload_n C 0 dX0_init_12 rfl rfl ?_
  refine V_bipush C (v := (25 : Int32)) dX0_init_13 (by decide) ?_
  refine V_newJ C (N := 25) mX0_init_6 ⟨by decide, by decide, by decide⟩ ⟨Nat.le_of_ble_eq_true rfl, Nat.le_of_ble_eq_true rfl⟩ dX0_init_15 (fun q15 => ?_)
  refine V_putF C hin (ty := .array .long) (v := .ref q15) uX0_init_X0 tyX0 tyX0_ok nmX0 0 1 rfl rfl (by decide) mX0_init_7 rfl rfl (by decide +kernel) rfl rfl (Nat.le_of_ble_eq_true rfl) dX0_init_17 (ws' := [(h0, eO 0 [.ref q7, .ref q15, .null, .null, .int 0, .int 0, .int 0, .int 0]), (q7, eI 25 (fun _ => 0)), (q15, eJ 25 (fun _ => 0))]) rfl ?_
  refine V_aload_n C 0 dX0_init_20 rfl rfl ?_
  refine V_iconst C (v := (4 : Int32)) dX0_init_21 (by decide) ?_
  refine V_newZ C (N := 4) mX0_init_8 ⟨by decide, by decide, by decide⟩ ⟨Nat.le_of_ble_eq_true rfl, Nat.le_of_ble_eq_true rfl⟩ dX0_init_22 (fun q22 => ?_)
  refine V_putF C hin (ty := .array .boolean) (v := .ref q22) uX0_init_X0 tyX0 tyX0_ok nmX0 0 2 rfl rfl (by decide) mX0_init_9 rfl rfl (by decide +kernel) rfl rfl (Nat.le_of_ble_eq_true rfl) dX0_init_24 (ws' := [(h0, eO 0 [.ref q7, .ref q15, .ref q22, .null, .int 0, .int 0, .int 0, .int 0]), (q7, eI 25 (fun _ => 0)), (q15, eJ 25 (fun _ => 0)), (q22, eZ 4 (fun _ => 0))]) rfl ?_
  refine V_aload_n C 0 dX0_init_27 rfl rfl ?_
  refine V_iconst C (v := (4 : Int32)) dX0_init_28 (by decide) ?_
  refine V_newJ C (N := 4) mX0_init_6 ⟨by decide, by decide, by decide⟩ ⟨Nat.le_of_ble_eq_true rfl, Nat.le_of_ble_eq_true rfl⟩ dX0_init_29 (fun q29 => ?_)
  refine V_putF C hin (ty := .array .long) (v := .ref q29) uX0_init_X0 tyX0 tyX0_ok nmX0 0 3 rfl rfl (by decide) mX0_init_10 rfl rfl (by decide +kernel) rfl rfl (Nat.le_of_ble_eq_true rfl) dX0_init_31 (ws' := [(h0, eO 0 [.ref q7, .ref q15, .ref q22, .ref q29, .int 0, .int 0, .int 0, .int 0]), (q7, eI 25 (fun _ => 0)), (q15, eJ 25 (fun _ => 0)), (q22, eZ 4 (fun _ => 0)), (q29, eJ 4 (fun _ => 0))]) rfl ?_
  refine V_perm [0, 1, 2, 3, 4] (ws' := [(h0, eO 0 [.ref q7, .ref q15, .ref q22, .ref q29, .int 0, .int 0, .int 0, .int 0]), (q7, eI 25 (fun _ => 0)), (q15, eJ 25 (fun _ => 0)), (q22, eZ 4 (fun _ => 0)), (q29, eJ 4 (fun _ => 0))]) rfl rfl ?_
  exact hR _ _ _ ⟨q7, q15, q22, q29, rfl⟩ dX0_init_34
theorem hdX0_init : yX0_init.cls ≠ "java/lang/invoke/MethodHandle" ∧ yX0_init.cls ≠ "java/lang/invoke/VarHandle" ∧ (parseMethodDescriptor yX0_init.desc).map (fun d => d.parameters.length) = some 0 := by decide +kernel
-- RodBoard$Counts.<init>
theorem mX2_init_1 : Cond.methodLink RX2 3 objectInit ∈ wsX2_init := List.mem_of_getElem? (i := 1) rfl
theorem mX2_init_2 : Cond.instanceMethod objectInit ∈ wsX2_init := List.mem_of_getElem? (i := 2) rfl
theorem mX2_init_3 : Cond.code objectInit ⟨#[0xb1]⟩ 1 none ∈ wsX2_init := List.mem_of_getElem? (i := 3) rfl
theorem mX2_init_4 : Cond.arrayClass .int ∈ wsX2_init := List.mem_of_getElem? (i := 4) rfl
theorem uX2_init_X2 : ∀ w ∈ wsX20, w ∈ wsX2_init := fun _ h => List.mem_cons_of_mem _ (List.mem_append_right _ h)
theorem mX2_init_5 : Cond.fieldLink RX2 11 "RodBoard$Counts" "bys" "[I" ∈ wsX2_init := List.mem_of_getElem? (i := 5) rfl
theorem mX2_init_6 : Cond.fieldLink RX2 15 "RodBoard$Counts" "lefts" "[I" ∈ wsX2_init := List.mem_of_getElem? (i := 6) rfl
set_option maxHeartbeats 4000000 in
set_option maxRecDepth 100000 in
theorem kX2_init {l : Launch} {h0 : Nat} : CtC l yX2_init wsX2_init ({ frames := 1, cells := 2, slots := 12, locals := 12 } : Room) [.ref h0] [(h0, eO 2 [.null, .null, .int 0])] 2 12 (fun u => ∃ (q7 q15 : Nat), u = [(h0, eO 2 [.ref q7, .ref q15, .int 0]), (q7, eI 6 (fun _ => 0)), (q15, eI 6 (fun _ => 0))]) := by
  refine CtC_of (cc := cX2_init) (maxL := 1) (own := RX2) rfl (by decide) rfl rfl (lv0 := [(0, .ref h0)]) rfl (Nat.le_of_ble_eq_true rfl) (fun Γ hL C hin hR => ?_)
  subst hL
  refine V_aload_n C 0 dX2_init_0 rfl rfl ?_
  refine V_obj C mX2_init_1 mX2_init_2 mX2_init_3 ⟨Nat.le_of_ble_eq_true rfl, Nat.le_of_ble_eq_true rfl⟩ dX2_init_1 ?_
  refine V_aload_n C 0 dX2_init_4 rfl rfl ?_
  refine V_bipush C (v := (6 : Int32)) dX2_init_5 (by decide) ?_
  refine V_newI C (N := 6) mX2_init_4 ⟨by decide, by decide, by decide⟩ ⟨Nat.le_of_ble_eq_true rfl, Nat.le_of_ble_eq_true rfl⟩ dX2_init_7 (fun q7 => ?_)
  refine V_putF C hin (ty := .array .int) (v := .ref q7) uX2_init_X2 tyX2 tyX2_ok nmX2 0 0 rfl rfl (by decide) mX2_init_5 rfl rfl (by decide +kernel) rfl rfl (Nat.le_of_ble_eq_true rfl) dX2_init_9 (ws' := [(h0, eO 2 [.ref q7, .null, .int 0]), (q7, eI 6 (fun _ => 0))]) rfl ?_
  refine V_aload_n C 0 dX2_init_12 rfl rfl ?_
  refine V_bipush C (v := (6 : Int32)) dX2_init_13 (by decide) ?_
  refine V_newI C (N := 6) mX2_init_4 ⟨by decide, by decide, by decide⟩ ⟨Nat.le_of_ble_eq_true rfl, Nat.le_of_ble_eq_true rfl⟩ dX2_init_15 (fun q15 => ?_)
  refine V_putF C hin (ty := .array .int) (v := .ref q15) uX2_init_X2 tyX2 tyX2_ok nmX2 0 1 rfl rfl (by decide) mX2_init_6 rfl rfl (by decide +kernel) rfl rfl (Nat.le_of_ble_eq_true rfl) dX2_init_17 (ws' := [(h0, eO 2 [.ref q7, .ref q15, .int 0]), (q7, eI 6 (fun _ => 0)), (q15, eI 6 (fun _ => 0))]) rfl ?_
  refine V_perm [0, 1, 2] (ws' := [(h0, eO 2 [.ref q7, .ref q15, .int 0]), (q7, eI 6 (fun _ => 0)), (q15, eI 6 (fun _ => 0))]) rfl rfl ?_
  exact hR _ _ _ ⟨q7, q15, rfl⟩ dX2_init_20
theorem hdX2_init : yX2_init.cls ≠ "java/lang/invoke/MethodHandle" ∧ yX2_init.cls ≠ "java/lang/invoke/VarHandle" ∧ (parseMethodDescriptor yX2_init.desc).map (fun d => d.parameters.length) = some 0 := by decide +kernel
-- RodBoard.<init>
theorem mX8_init_1 : Cond.methodLink RX8 1 objectInit ∈ wsX8_init := List.mem_of_getElem? (i := 1) rfl
theorem mX8_init_2 : Cond.instanceMethod objectInit ∈ wsX8_init := List.mem_of_getElem? (i := 2) rfl
theorem mX8_init_3 : Cond.code objectInit ⟨#[0xb1]⟩ 1 none ∈ wsX8_init := List.mem_of_getElem? (i := 3) rfl
theorem uX8_init_X7 : ∀ w ∈ wsX70, w ∈ wsX8_init := fun _ h => List.mem_cons_of_mem _ (List.mem_append_left _ (List.mem_append_left _ (List.mem_append_left _ (List.mem_append_left _ (List.mem_append_left _ (List.mem_append_left _ (List.mem_append_right _ h)))))))
theorem mX8_init_4 : Cond.classLink RX8 7 RX7 ∈ wsX8_init := List.mem_of_getElem? (i := 4) rfl
theorem mX8_init_5 : Cond.instantiable RX7 2 ∈ wsX8_init := List.mem_of_getElem? (i := 5) rfl
theorem mX8_init_6 : Cond.initialized RX7 ∈ wsX8_init := List.mem_of_getElem? (i := 6) rfl
theorem mX8_init_24 : Cond.instanceMethod yX7_init ∈ wsX8_init := List.mem_of_getElem? (i := 24) rfl
theorem uX8_init_X8 : ∀ w ∈ wsX80, w ∈ wsX8_init := fun _ h => List.mem_cons_of_mem _ (List.mem_append_left _ (List.mem_append_left _ (List.mem_append_left _ (List.mem_append_left _ (List.mem_append_left _ (List.mem_append_right _ h))))))
theorem mX8_init_7 : Cond.fieldLink RX8 10 "RodBoard" "working" "LRodBoard$Working;" ∈ wsX8_init := List.mem_of_getElem? (i := 7) rfl
theorem uX8_init_X6 : ∀ w ∈ wsX60, w ∈ wsX8_init := fun _ h => List.mem_cons_of_mem _ (List.mem_append_left _ (List.mem_append_left _ (List.mem_append_left _ (List.mem_append_left _ (List.mem_append_right _ h)))))
theorem mX8_init_8 : Cond.classLink RX8 16 RX6 ∈ wsX8_init := List.mem_of_getElem? (i := 8) rfl
theorem mX8_init_9 : Cond.instantiable RX6 4 ∈ wsX8_init := List.mem_of_getElem? (i := 9) rfl
theorem mX8_init_10 : Cond.initialized RX6 ∈ wsX8_init := List.mem_of_getElem? (i := 10) rfl
theorem mX8_init_39 : Cond.instanceMethod yX6_init ∈ wsX8_init := List.mem_of_getElem? (i := 39) rfl
theorem mX8_init_11 : Cond.fieldLink RX8 19 "RodBoard" "groups" "LRodBoard$Strip;" ∈ wsX8_init := List.mem_of_getElem? (i := 11) rfl
theorem uX8_init_X1 : ∀ w ∈ wsX10, w ∈ wsX8_init := fun _ h => List.mem_cons_of_mem _ (List.mem_append_left _ (List.mem_append_left _ (List.mem_append_left _ (List.mem_append_right _ h))))
theorem mX8_init_12 : Cond.classLink RX8 23 RX1 ∈ wsX8_init := List.mem_of_getElem? (i := 12) rfl
theorem mX8_init_13 : Cond.instantiable RX1 1 ∈ wsX8_init := List.mem_of_getElem? (i := 13) rfl
theorem mX8_init_14 : Cond.initialized RX1 ∈ wsX8_init := List.mem_of_getElem? (i := 14) rfl
theorem mX8_init_45 : Cond.instanceMethod yX1_init ∈ wsX8_init := List.mem_of_getElem? (i := 45) rfl
theorem mX8_init_15 : Cond.fieldLink RX8 26 "RodBoard" "clerk" "LRodBoard$Clerk;" ∈ wsX8_init := List.mem_of_getElem? (i := 15) rfl
theorem uX8_init_X0 : ∀ w ∈ wsX00, w ∈ wsX8_init := fun _ h => List.mem_cons_of_mem _ (List.mem_append_left _ (List.mem_append_left _ (List.mem_append_right _ h)))
theorem mX8_init_16 : Cond.classLink RX8 30 RX0 ∈ wsX8_init := List.mem_of_getElem? (i := 16) rfl
theorem mX8_init_17 : Cond.instantiable RX0 8 ∈ wsX8_init := List.mem_of_getElem? (i := 17) rfl
theorem mX8_init_18 : Cond.initialized RX0 ∈ wsX8_init := List.mem_of_getElem? (i := 18) rfl
theorem mX8_init_50 : Cond.instanceMethod yX0_init ∈ wsX8_init := List.mem_of_getElem? (i := 50) rfl
theorem mX8_init_19 : Cond.fieldLink RX8 33 "RodBoard" "clearing" "LRodBoard$Clearing;" ∈ wsX8_init := List.mem_of_getElem? (i := 19) rfl
theorem uX8_init_X2 : ∀ w ∈ wsX20, w ∈ wsX8_init := fun _ h => List.mem_cons_of_mem _ (List.mem_append_left _ (List.mem_append_right _ h))
theorem mX8_init_20 : Cond.classLink RX8 37 RX2 ∈ wsX8_init := List.mem_of_getElem? (i := 20) rfl
theorem mX8_init_21 : Cond.instantiable RX2 3 ∈ wsX8_init := List.mem_of_getElem? (i := 21) rfl
theorem mX8_init_22 : Cond.initialized RX2 ∈ wsX8_init := List.mem_of_getElem? (i := 22) rfl
theorem mX8_init_58 : Cond.instanceMethod yX2_init ∈ wsX8_init := List.mem_of_getElem? (i := 58) rfl
theorem mX8_init_23 : Cond.fieldLink RX8 40 "RodBoard" "counts" "LRodBoard$Counts;" ∈ wsX8_init := List.mem_of_getElem? (i := 23) rfl
set_option maxHeartbeats 4000000 in
set_option maxRecDepth 100000 in
theorem kX8_init {l : Launch} {h0 : Nat} {o0 : Int32} {o1 : Int32} {o2 : Nat → Int32} (hm : fX0_begin (1 : Int32) (1 : Int32) 0 0 (fun _ => 0) = some (o0, o1, o2)) : CtC l yX8_init wsX8_init ({ frames := 3, cells := 21, slots := 1655, locals := 52 } : Room) [.ref h0] [(h0, eO 6 [.null, .null, .null, .null, .null])] 21 1655 (fun u => ∃ (q5 q7_9 q13_9 q8_17_9 q17_17_9 q16 q7_20 q15_20 q24_20 q27 q5_31 q8_9_31 q17_9_31 q38 q7_42 q15_42 q22_42 q29_42 q49 q7_53 q15_53 : Nat), u = [(h0, eO 6 [.ref q5, .ref q16, .ref q27, .ref q38, .ref q49]), (q5, eO 5 [.ref q7_9, .ref q13_9]), (q7_9, eJ 8 (fun _ => 0)), (q13_9, eO 3 [.ref q8_17_9, .ref q17_17_9, .int 0]), (q8_17_9, eJ 392 (fun _ => 0)), (q17_17_9, eI 288 (fun _ => 0)), (q16, eO 4 [.ref q7_20, .ref q15_20, .ref q24_20, .int 0]), (q7_20, eI 12 (fun _ => 0)), (q15_20, eI 12 (fun _ => 0)), (q24_20, eI 169 (fun _ => 0)), (q27, eO 1 [.ref q5_31]), (q5_31, eO 3 [.ref q8_9_31, .ref q17_9_31, .int 0]), (q8_9_31, eJ 392 (fun _ => 0)), (q17_9_31, eI 288 (fun _ => 0)), (q38, eO 0 [.ref q7_42, .ref q15_42, .ref q22_42, .ref q29_42, .int o0, .int o1, .int 0, .int 0]), (q7_42, eI 25 o2), (q15_42, eJ 25 (fun _ => 0)), (q22_42, eZ 4 (fun _ => 0)), (q29_42, eJ 4 (fun _ => 0)), (q49, eO 2 [.ref q7_53, .ref q15_53, .int 0]), (q7_53, eI 6 (fun _ => 0)), (q15_53, eI 6 (fun _ => 0))]) := by
  refine CtC_of (cc := cX8_init) (maxL := 1) (own := RX8) rfl (by decide) rfl rfl (lv0 := [(0, .ref h0)]) rfl (Nat.le_of_ble_eq_true rfl) (fun Γ hL C hin hR => ?_)
  subst hL
  refine V_aload_n C 0 dX8_init_0 rfl rfl ?_
  refine V_obj C mX8_init_1 mX8_init_2 mX8_init_3 ⟨Nat.le_of_ble_eq_true rfl, Nat.le_of_ble_eq_true rfl⟩ dX8_init_1 ?_
  refine V_aload_n C 0 dX8_init_4 rfl rfl ?_
  refine V_new C (ci := 5) (fs := [.null, .null]) uX8_init_X7 tyX7 tyX7_ok mX8_init_4 mX8_init_5 mX8_init_6 rfl (fun j hj => by rcases (show j = 0 ∨ j = 1 by omega) with rfl | rfl <;> rfl) ⟨Nat.le_of_ble_eq_true rfl, Nat.le_of_ble_eq_true rfl⟩ dX8_init_5 (fun q5 => ?_)
  refine V_dup C dX8_init_8 rfl ?_
  refine V_callIN C (wc := [(q5, eO 5 [.null, .null])]) (wr := [(h0, eO 6 [.null, .null, .null, .null, .null])]) (kX7_init (h0 := q5)) ggX8_init_X7_init nw_cX8_X7_init mX8_init_6 mX8_init_24 rfl ⟨rfl, rfl⟩ rfl hdX7_init ⟨Nat.le_of_ble_eq_true rfl, Nat.le_of_ble_eq_true rfl⟩ ⟨Nat.le_of_ble_eq_true rfl, Nat.le_of_ble_eq_true rfl⟩ [1] [0] rfl rfl ⟨rfl, rfl⟩ (by decide) (Nat.le_of_ble_eq_true rfl) dX8_init_9 (fun u hu => ?_)
  obtain ⟨q7_9, q13_9, q8_17_9, q17_17_9, rfl⟩ := hu
  refine V_putF C hin (ty := .object "RodBoard$Working") (v := .ref q5) uX8_init_X8 tyX8 tyX8_ok nmX8 0 0 rfl rfl (by decide) mX8_init_7 rfl rfl (by decide +kernel) rfl rfl (Nat.le_of_ble_eq_true rfl) dX8_init_12 (ws' := [(h0, eO 6 [.ref q5, .null, .null, .null, .null]), (q5, eO 5 [.ref q7_9, .ref q13_9]), (q7_9, eJ 8 (fun _ => 0)), (q13_9, eO 3 [.ref q8_17_9, .ref q17_17_9, .int 0]), (q8_17_9, eJ 392 (fun _ => 0)), (q17_17_9, eI 288 (fun _ => 0))]) rfl ?_
  refine V_aload_n C 0 dX8_init_15 rfl rfl ?_
  refine V_new C (ci := 4) (fs := [.null, .null, .null, .int 0]) uX8_init_X6 tyX6 tyX6_ok mX8_init_8 mX8_init_9 mX8_init_10 rfl (fun j hj => by rcases (show j = 0 ∨ j = 1 ∨ j = 2 ∨ j = 3 by omega) with rfl | rfl | rfl | rfl <;> rfl) ⟨Nat.le_of_ble_eq_true rfl, Nat.le_of_ble_eq_true rfl⟩ dX8_init_16 (fun q16 => ?_)
  refine V_dup C dX8_init_19 rfl ?_
  refine V_callIN C (wc := [(q16, eO 4 [.null, .null, .null, .int 0])]) (wr := [(h0, eO 6 [.ref q5, .null, .null, .null, .null]), (q5, eO 5 [.ref q7_9, .ref q13_9]), (q7_9, eJ 8 (fun _ => 0)), (q13_9, eO 3 [.ref q8_17_9, .ref q17_17_9, .int 0]), (q8_17_9, eJ 392 (fun _ => 0)), (q17_17_9, eI 288 (fun _ => 0))]) (kX6_init (h0 := q16)) ggX8_init_X6_init nw_cX8_X6_init mX8_init_10 mX8_init_39 rfl ⟨rfl, rfl⟩ rfl hdX6_init ⟨Nat.le_of_ble_eq_true rfl, Nat.le_of_ble_eq_true rfl⟩ ⟨Nat.le_of_ble_eq_true rfl, Nat.le_of_ble_eq_true rfl⟩ [6] [0, 1, 2, 3, 4, 5] rfl rfl ⟨rfl, rfl⟩ (by decide) (Nat.le_of_ble_eq_true rfl) dX8_init_20 (fun u hu => ?_)
  obtain ⟨q7_20, q15_20, q24_20, rfl⟩ := hu
  refine V_putF C hin (ty := .object "RodBoard$Strip") (v := .ref q16) uX8_init_X8 tyX8 tyX8_ok nmX8 0 1 rfl rfl (by decide) mX8_init_11 rfl rfl (by decide +kernel) rfl rfl (Nat.le_of_ble_eq_true rfl) dX8_init_23 (ws' := [(h0, eO 6 [.ref q5, .ref q16, .null, .null, .null]), (q5, eO 5 [.ref q7_9, .ref q13_9]), (q7_9, eJ 8 (fun _ => 0)), (q13_9, eO 3 [.ref q8_17_9, .ref q17_17_9, .int 0]), (q8_17_9, eJ 392 (fun _ => 0)), (q17_17_9, eI 288 (fun _ => 0)), (q16, eO 4 [.ref q7_20, .ref q15_20, .ref q24_20, .int 0]), (q7_20, eI 12 (fun _ => 0)), (q15_20, eI 12 (fun _ => 0)), (q24_20, eI 169 (fun _ => 0))]) rfl ?_
  refine V_aload_n C 0 dX8_init_26 rfl rfl ?_
  refine V_new C (ci := 1) (fs := [.null]) uX8_init_X1 tyX1 tyX1_ok mX8_init_12 mX8_init_13 mX8_init_14 rfl (fun j hj => by rcases (show j = 0 by omega) with rfl <;> rfl) ⟨Nat.le_of_ble_eq_true rfl, Nat.le_of_ble_eq_true rfl⟩ dX8_init_27 (fun q27 => ?_)
  refine V_dup C dX8_init_30 rfl ?_
  refine V_callIN C (wc := [(q27, eO 1 [.null])]) (wr := [(h0, eO 6 [.ref q5, .ref q16, .null, .null, .null]), (q5, eO 5 [.ref q7_9, .ref q13_9]), (q7_9, eJ 8 (fun _ => 0)), (q13_9, eO 3 [.ref q8_17_9, .ref q17_17_9, .int 0]), (q8_17_9, eJ 392 (fun _ => 0)), (q17_17_9, eI 288 (fun _ => 0)), (q16, eO 4 [.ref q7_20, .ref q15_20, .ref q24_20, .int 0]), (q7_20, eI 12 (fun _ => 0)), (q15_20, eI 12 (fun _ => 0)), (q24_20, eI 169 (fun _ => 0))]) (kX1_init (h0 := q27)) ggX8_init_X1_init nw_cX8_X1_init mX8_init_14 mX8_init_45 rfl ⟨rfl, rfl⟩ rfl hdX1_init ⟨Nat.le_of_ble_eq_true rfl, Nat.le_of_ble_eq_true rfl⟩ ⟨Nat.le_of_ble_eq_true rfl, Nat.le_of_ble_eq_true rfl⟩ [10] [0, 1, 2, 3, 4, 5, 6, 7, 8, 9] rfl rfl ⟨rfl, rfl⟩ (by decide) (Nat.le_of_ble_eq_true rfl) dX8_init_31 (fun u hu => ?_)
  obtain ⟨q5_31, q8_9_31, q17_9_31, rfl⟩ := hu
  refine V_putF C hin (ty := .object "RodBoard$Clerk") (v := .ref q27) uX8_init_X8 tyX8 tyX8_ok nmX8 0 2 rfl rfl (by decide) mX8_init_15 rfl rfl (by decide +kernel) rfl rfl (Nat.le_of_ble_eq_true rfl) dX8_init_34 (ws' := [(h0, eO 6 [.ref q5, .ref q16, .ref q27, .null, .null]), (q5, eO 5 [.ref q7_9, .ref q13_9]), (q7_9, eJ 8 (fun _ => 0)), (q13_9, eO 3 [.ref q8_17_9, .ref q17_17_9, .int 0]), (q8_17_9, eJ 392 (fun _ => 0)), (q17_17_9, eI 288 (fun _ => 0)), (q16, eO 4 [.ref q7_20, .ref q15_20, .ref q24_20, .int 0]), (q7_20, eI 12 (fun _ => 0)), (q15_20, eI 12 (fun _ => 0)), (q24_20, eI 169 (fun _ => 0)), (q27, eO 1 [.ref q5_31]), (q5_31, eO 3 [.ref q8_9_31, .ref q17_9_31, .int 0]), (q8_9_31, eJ 392 (fun _ => 0)), (q17_9_31, eI 288 (fun _ => 0))]) rfl ?_
  refine V_aload_n C 0 dX8_init_37 rfl rfl ?_
  refine V_new C (ci := 0) (fs := [.null, .null, .null, .null, .int 0, .int 0, .int 0, .int 0]) uX8_init_X0 tyX0 tyX0_ok mX8_init_16 mX8_init_17 mX8_init_18 rfl (fun j hj => by rcases (show j = 0 ∨ j = 1 ∨ j = 2 ∨ j = 3 ∨ j = 4 ∨ j = 5 ∨ j = 6 ∨ j = 7 by omega) with rfl | rfl | rfl | rfl | rfl | rfl | rfl | rfl <;> rfl) ⟨Nat.le_of_ble_eq_true rfl, Nat.le_of_ble_eq_true rfl⟩ dX8_init_38 (fun q38 => ?_)
  refine V_dup C dX8_init_41 rfl ?_
  refine V_callIN C (wc := [(q38, eO 0 [.null, .null, .null, .null, .int 0, .int 0, .int 0, .int 0])]) (wr := [(h0, eO 6 [.ref q5, .ref q16, .ref q27, .null, .null]), (q5, eO 5 [.ref q7_9, .ref q13_9]), (q7_9, eJ 8 (fun _ => 0)), (q13_9, eO 3 [.ref q8_17_9, .ref q17_17_9, .int 0]), (q8_17_9, eJ 392 (fun _ => 0)), (q17_17_9, eI 288 (fun _ => 0)), (q16, eO 4 [.ref q7_20, .ref q15_20, .ref q24_20, .int 0]), (q7_20, eI 12 (fun _ => 0)), (q15_20, eI 12 (fun _ => 0)), (q24_20, eI 169 (fun _ => 0)), (q27, eO 1 [.ref q5_31]), (q5_31, eO 3 [.ref q8_9_31, .ref q17_9_31, .int 0]), (q8_9_31, eJ 392 (fun _ => 0)), (q17_9_31, eI 288 (fun _ => 0))]) (kX0_init (h0 := q38)) ggX8_init_X0_init nw_cX8_X0_init mX8_init_18 mX8_init_50 rfl ⟨rfl, rfl⟩ rfl hdX0_init ⟨Nat.le_of_ble_eq_true rfl, Nat.le_of_ble_eq_true rfl⟩ ⟨Nat.le_of_ble_eq_true rfl, Nat.le_of_ble_eq_true rfl⟩ [14] [0, 1, 2, 3, 4, 5, 6, 7, 8, 9, 10, 11, 12, 13] rfl rfl ⟨rfl, rfl⟩ (by decide) (Nat.le_of_ble_eq_true rfl) dX8_init_42 (fun u hu => ?_)
  obtain ⟨q7_42, q15_42, q22_42, q29_42, rfl⟩ := hu
  refine V_putF C hin (ty := .object "RodBoard$Clearing") (v := .ref q38) uX8_init_X8 tyX8 tyX8_ok nmX8 0 3 rfl rfl (by decide) mX8_init_19 rfl rfl (by decide +kernel) rfl rfl (Nat.le_of_ble_eq_true rfl) dX8_init_45 (ws' := [(h0, eO 6 [.ref q5, .ref q16, .ref q27, .ref q38, .null]), (q5, eO 5 [.ref q7_9, .ref q13_9]), (q7_9, eJ 8 (fun _ => 0)), (q13_9, eO 3 [.ref q8_17_9, .ref q17_17_9, .int 0]), (q8_17_9, eJ 392 (fun _ => 0)), (q17_17_9, eI 288 (fun _ => 0)), (q16, eO 4 [.ref q7_20, .ref q15_20, .ref q24_20, .int 0]), (q7_20, eI 12 (fun _ => 0)), (q15_20, eI 12 (fun _ => 0)), (q24_20, eI 169 (fun _ => 0)), (q27, eO 1 [.ref q5_31]), (q5_31, eO 3 [.ref q8_9_31, .ref q17_9_31, .int 0]), (q8_9_31, eJ 392 (fun _ => 0)), (q17_9_31, eI 288 (fun _ => 0)), (q38, eO 0 [.ref q7_42, .ref q15_42, .ref q22_42, .ref q29_42, .int 0, .int 0, .int 0, .int 0]), (q7_42, eI 25 (fun _ => 0)), (q15_42, eJ 25 (fun _ => 0)), (q22_42, eZ 4 (fun _ => 0)), (q29_42, eJ 4 (fun _ => 0))]) rfl ?_
  refine V_aload_n C 0 dX8_init_48 rfl rfl ?_
  refine V_new C (ci := 2) (fs := [.null, .null, .int 0]) uX8_init_X2 tyX2 tyX2_ok mX8_init_20 mX8_init_21 mX8_init_22 rfl (fun j hj => by rcases (show j = 0 ∨ j = 1 ∨ j = 2 by omega) with rfl | rfl | rfl <;> rfl) ⟨Nat.le_of_ble_eq_true rfl, Nat.le_of_ble_eq_true rfl⟩ dX8_init_49 (fun q49 => ?_)
  refine V_dup C dX8_init_52 rfl ?_
  refine V_callIN C (wc := [(q49, eO 2 [.null, .null, .int 0])]) (wr := [(h0, eO 6 [.ref q5, .ref q16, .ref q27, .ref q38, .null]), (q5, eO 5 [.ref q7_9, .ref q13_9]), (q7_9, eJ 8 (fun _ => 0)), (q13_9, eO 3 [.ref q8_17_9, .ref q17_17_9, .int 0]), (q8_17_9, eJ 392 (fun _ => 0)), (q17_17_9, eI 288 (fun _ => 0)), (q16, eO 4 [.ref q7_20, .ref q15_20, .ref q24_20, .int 0]), (q7_20, eI 12 (fun _ => 0)), (q15_20, eI 12 (fun _ => 0)), (q24_20, eI 169 (fun _ => 0)), (q27, eO 1 [.ref q5_31]), (q5_31, eO 3 [.ref q8_9_31, .ref q17_9_31, .int 0]), (q8_9_31, eJ 392 (fun _ => 0)), (q17_9_31, eI 288 (fun _ => 0)), (q38, eO 0 [.ref q7_42, .ref q15_42, .ref q22_42, .ref q29_42, .int 0, .int 0, .int 0, .int 0]), (q7_42, eI 25 (fun _ => 0)), (q15_42, eJ 25 (fun _ => 0)), (q22_42, eZ 4 (fun _ => 0)), (q29_42, eJ 4 (fun _ => 0))]) (kX2_init (h0 := q49)) ggX8_init_X2_init nw_cX8_X2_init mX8_init_22 mX8_init_58 rfl ⟨rfl, rfl⟩ rfl hdX2_init ⟨Nat.le_of_ble_eq_true rfl, Nat.le_of_ble_eq_true rfl⟩ ⟨Nat.le_of_ble_eq_true rfl, Nat.le_of_ble_eq_true rfl⟩ [19] [0, 1, 2, 3, 4, 5, 6, 7, 8, 9, 10, 11, 12, 13, 14, 15, 16, 17, 18] rfl rfl ⟨rfl, rfl⟩ (by decide) (Nat.le_of_ble_eq_true rfl) dX8_init_53 (fun u hu => ?_)
  obtain ⟨q7_53, q15_53, rfl⟩ := hu
  refine V_putF C hin (ty := .object "RodBoard$Counts") (v := .ref q49) uX8_init_X8 tyX8 tyX8_ok nmX8 0 4 rfl rfl (by decide) mX8_init_23 rfl rfl (by decide +kernel) rfl rfl (Nat.le_of_ble_eq_true rfl) dX8_init_56 (ws' := [(h0, eO 6 [.ref q5, .ref q16, .ref q27, .ref q38, .ref q49]), (q5, eO 5 [.ref q7_9, .ref q13_9]), (q7_9, eJ 8 (fun _ => 0)), (q13_9, eO 3 [.ref q8_17_9, .ref q17_17_9, .int 0]), (q8_17_9, eJ 392 (fun _ => 0)), (q17_17_9, eI 288 (fun _ => 0)), (q16, eO 4 [.ref q7_20, .ref q15_20, .ref q24_20, .int 0]), (q7_20, eI 12 (fun _ => 0)), (q15_20, eI 12 (fun _ => 0)), (q24_20, eI 169 (fun _ => 0)), (q27, eO 1 [.ref q5_31]), (q5_31, eO 3 [.ref q8_9_31, .ref q17_9_31, .int 0]), (q8_9_31, eJ 392 (fun _ => 0)), (q17_9_31, eI 288 (fun _ => 0)), (q38, eO 0 [.ref q7_42, .ref q15_42, .ref q22_42, .ref q29_42, .int 0, .int 0, .int 0, .int 0]), (q7_42, eI 25 (fun _ => 0)), (q15_42, eJ 25 (fun _ => 0)), (q22_42, eZ 4 (fun _ => 0)), (q29_42, eJ 4 (fun _ => 0)), (q49, eO 2 [.ref q7_53, .ref q15_53, .int 0]), (q7_53, eI 6 (fun _ => 0)), (q15_53, eI 6 (fun _ => 0))]) rfl ?_
  refine V_aload_n C 0 dX8_init_59 rfl rfl ?_
  refine V_get C uX8_init_X8 0 3 rfl rfl (by decide) mX8_init_19 rfl dX8_init_60 ?_
  refine V_iconst C (v := (1 : Int32)) dX8_init_63 (by decide) ?_
  refine V_iconst C (v := (1 : Int32)) dX8_init_64 (by decide) ?_
  refine V_callVV C (As := [.int (1 : Int32), .int (1 : Int32)]) (wr := [(h0, eO 6 [.ref q5, .ref q16, .ref q27, .ref q38, .ref q49]), (q5, eO 5 [.ref q7_9, .ref q13_9]), (q7_9, eJ 8 (fun _ => 0)), (q13_9, eO 3 [.ref q8_17_9, .ref q17_17_9, .int 0]), (q8_17_9, eJ 392 (fun _ => 0)), (q17_17_9, eI 288 (fun _ => 0)), (q16, eO 4 [.ref q7_20, .ref q15_20, .ref q24_20, .int 0]), (q7_20, eI 12 (fun _ => 0)), (q15_20, eI 12 (fun _ => 0)), (q24_20, eI 169 (fun _ => 0)), (q27, eO 1 [.ref q5_31]), (q5_31, eO 3 [.ref q8_9_31, .ref q17_9_31, .int 0]), (q8_9_31, eJ 392 (fun _ => 0)), (q17_9_31, eI 288 (fun _ => 0)), (q49, eO 2 [.ref q7_53, .ref q15_53, .int 0]), (q7_53, eI 6 (fun _ => 0)), (q15_53, eI 6 (fun _ => 0))]) (ws2 := [(h0, eO 6 [.ref q5, .ref q16, .ref q27, .ref q38, .ref q49]), (q5, eO 5 [.ref q7_9, .ref q13_9]), (q7_9, eJ 8 (fun _ => 0)), (q13_9, eO 3 [.ref q8_17_9, .ref q17_17_9, .int 0]), (q8_17_9, eJ 392 (fun _ => 0)), (q17_17_9, eI 288 (fun _ => 0)), (q16, eO 4 [.ref q7_20, .ref q15_20, .ref q24_20, .int 0]), (q7_20, eI 12 (fun _ => 0)), (q15_20, eI 12 (fun _ => 0)), (q24_20, eI 169 (fun _ => 0)), (q27, eO 1 [.ref q5_31]), (q5_31, eO 3 [.ref q8_9_31, .ref q17_9_31, .int 0]), (q8_9_31, eJ 392 (fun _ => 0)), (q17_9_31, eI 288 (fun _ => 0)), (q38, eO 0 [.ref q7_42, .ref q15_42, .ref q22_42, .ref q29_42, .int o0, .int o1, .int 0, .int 0]), (q7_42, eI 25 o2), (q15_42, eJ 25 (fun _ => 0)), (q22_42, eZ 4 (fun _ => 0)), (q29_42, eJ 4 (fun _ => 0)), (q49, eO 2 [.ref q7_53, .ref q15_53, .int 0]), (q7_53, eI 6 (fun _ => 0)), (q15_53, eI 6 (fun _ => 0))]) (kX0_begin q38 q7_42 q15_42 q22_42 q29_42 0 0 0 0 (fun _ => 0) (fun _ => 0) (fun _ => 0) (fun _ => 0) (1 : Int32) (1 : Int32) o0 o1 o2 hm) gX8_init_X0_begin rfl ⟨rfl, rfl⟩ hdX0_begin ⟨Nat.le_of_ble_eq_true rfl, Nat.le_of_ble_eq_true rfl⟩ ⟨Nat.le_of_ble_eq_true rfl, Nat.le_of_ble_eq_true rfl⟩ 0 rfl rfl [14, 15, 16, 17, 18] [0, 1, 2, 3, 4, 5, 6, 7, 8, 9, 10, 11, 12, 13, 19, 20, 21] [0, 1, 2, 3, 4, 5, 6, 7, 8, 9, 10, 11, 12, 13, 17, 18, 19, 20, 21, 14, 15, 16] rfl rfl ⟨rfl, rfl, rfl⟩ (by decide) rfl rfl (Nat.le_of_ble_eq_true rfl) dX8_init_65 ?_
  refine V_perm [0, 1, 2, 3, 4, 5, 6, 7, 8, 9, 10, 11, 12, 13, 14, 15, 16, 17, 18, 19, 20, 21] (ws' := [(h0, eO 6 [.ref q5, .ref q16, .ref q27, .ref q38, .ref q49]), (q5, eO 5 [.ref q7_9, .ref q13_9]), (q7_9, eJ 8 (fun _ => 0)), (q13_9, eO 3 [.ref q8_17_9, .ref q17_17_9, .int 0]), (q8_17_9, eJ 392 (fun _ => 0)), (q17_17_9, eI 288 (fun _ => 0)), (q16, eO 4 [.ref q7_20, .ref q15_20, .ref q24_20, .int 0]), (q7_20, eI 12 (fun _ => 0)), (q15_20, eI 12 (fun _ => 0)), (q24_20, eI 169 (fun _ => 0)), (q27, eO 1 [.ref q5_31]), (q5_31, eO 3 [.ref q8_9_31, .ref q17_9_31, .int 0]), (q8_9_31, eJ 392 (fun _ => 0)), (q17_9_31, eI 288 (fun _ => 0)), (q38, eO 0 [.ref q7_42, .ref q15_42, .ref q22_42, .ref q29_42, .int o0, .int o1, .int 0, .int 0]), (q7_42, eI 25 o2), (q15_42, eJ 25 (fun _ => 0)), (q22_42, eZ 4 (fun _ => 0)), (q29_42, eJ 4 (fun _ => 0)), (q49, eO 2 [.ref q7_53, .ref q15_53, .int 0]), (q7_53, eI 6 (fun _ => 0)), (q15_53, eI 6 (fun _ => 0))]) rfl rfl ?_
  exact hR _ _ _ ⟨q5, q7_9, q13_9, q8_17_9, q17_17_9, q16, q7_20, q15_20, q24_20, q27, q5_31, q8_9_31, q17_9_31, q38, q7_42, q15_42, q22_42, q29_42, q49, q7_53, q15_53, rfl⟩ dX8_init_68
theorem hdX8_init : yX8_init.cls ≠ "java/lang/invoke/MethodHandle" ∧ yX8_init.cls ≠ "java/lang/invoke/VarHandle" ∧ (parseMethodDescriptor yX8_init.desc).map (fun d => d.parameters.length) = some 0 := by decide +kernel
-- RodBoardModel.<init>
theorem mX9_init_1 : Cond.methodLink RX9 1 objectInit ∈ wsX9_init := List.mem_of_getElem? (i := 1) rfl
theorem mX9_init_2 : Cond.instanceMethod objectInit ∈ wsX9_init := List.mem_of_getElem? (i := 2) rfl
theorem mX9_init_3 : Cond.code objectInit ⟨#[0xb1]⟩ 1 none ∈ wsX9_init := List.mem_of_getElem? (i := 3) rfl
theorem mX9_init_4 : Cond.arrayClass .long ∈ wsX9_init := List.mem_of_getElem? (i := 4) rfl
theorem uX9_init_X9 : ∀ w ∈ wsX90, w ∈ wsX9_init := fun _ h => List.mem_cons_of_mem _ (List.mem_append_right _ h)
theorem mX9_init_5 : Cond.fieldLink RX9 7 "RodBoardModel" "row" "[J" ∈ wsX9_init := List.mem_of_getElem? (i := 5) rfl
theorem mX9_init_6 : Cond.arrayClass .int ∈ wsX9_init := List.mem_of_getElem? (i := 6) rfl
theorem mX9_init_7 : Cond.fieldLink RX9 13 "RodBoardModel" "stick" "[I" ∈ wsX9_init := List.mem_of_getElem? (i := 7) rfl
theorem mX9_init_8 : Cond.fieldLink RX9 17 "RodBoardModel" "groupWay" "[I" ∈ wsX9_init := List.mem_of_getElem? (i := 8) rfl
theorem mX9_init_9 : Cond.fieldLink RX9 20 "RodBoardModel" "board" "[J" ∈ wsX9_init := List.mem_of_getElem? (i := 9) rfl
theorem mX9_init_10 : Cond.fieldLink RX9 23 "RodBoardModel" "note" "[I" ∈ wsX9_init := List.mem_of_getElem? (i := 10) rfl
theorem mX9_init_11 : Cond.fieldLink RX9 26 "RodBoardModel" "copy" "[J" ∈ wsX9_init := List.mem_of_getElem? (i := 11) rfl
theorem mX9_init_12 : Cond.arrayClass .boolean ∈ wsX9_init := List.mem_of_getElem? (i := 12) rfl
theorem mX9_init_13 : Cond.fieldLink RX9 29 "RodBoardModel" "isGap" "[Z" ∈ wsX9_init := List.mem_of_getElem? (i := 13) rfl
theorem mX9_init_14 : Cond.fieldLink RX9 33 "RodBoardModel" "unknowns" "I" ∈ wsX9_init := List.mem_of_getElem? (i := 14) rfl
theorem mX9_init_15 : Cond.fieldLink RX9 37 "RodBoardModel" "columns" "I" ∈ wsX9_init := List.mem_of_getElem? (i := 15) rfl
theorem mX9_init_16 : Cond.fieldLink RX9 40 "RodBoardModel" "told" "[I" ∈ wsX9_init := List.mem_of_getElem? (i := 16) rfl
theorem mX9_init_17 : Cond.fieldLink RX9 43 "RodBoardModel" "by" "[I" ∈ wsX9_init := List.mem_of_getElem? (i := 17) rfl
theorem mX9_init_18 : Cond.fieldLink RX9 46 "RodBoardModel" "left" "[I" ∈ wsX9_init := List.mem_of_getElem? (i := 18) rfl
theorem mX9_init_19 : Cond.fieldLink RX9 49 "RodBoardModel" "hand" "[J" ∈ wsX9_init := List.mem_of_getElem? (i := 19) rfl
theorem mX9_init_20 : Cond.fieldLink RX9 52 "RodBoardModel" "newBoard" "[J" ∈ wsX9_init := List.mem_of_getElem? (i := 20) rfl
theorem mX9_init_21 : Cond.fieldLink RX9 55 "RodBoardModel" "newNote" "[I" ∈ wsX9_init := List.mem_of_getElem? (i := 21) rfl
theorem mX9_init_22 : Cond.fieldLink RX9 58 "RodBoardModel" "work" "[J" ∈ wsX9_init := List.mem_of_getElem? (i := 22) rfl
theorem mX9_init_23 : Cond.fieldLink RX9 61 "RodBoardModel" "from" "[I" ∈ wsX9_init := List.mem_of_getElem? (i := 23) rfl
theorem mX9_init_24 : Cond.fieldLink RX9 64 "RodBoardModel" "order" "[I" ∈ wsX9_init := List.mem_of_getElem? (i := 24) rfl
set_option maxHeartbeats 4000000 in
set_option maxRecDepth 100000 in
theorem kX9_init {l : Launch} {h0 : Nat} : CtC l yX9_init wsX9_init ({ frames := 1, cells := 16, slots := 6711, locals := 12 } : Room) [.ref h0] [(h0, eO 7 [.null, .int 0, .null, .null, .int 0, .null, .null, .int 0, .null, .null, .int 0, .int 0, .null, .int 0, .null, .null, .null, .null, .null, .int 0, .int 0, .null, .null, .int 0, .int 0, .int 0, .null])] 16 6711 (fun u => ∃ (q7 q15 q23 q32 q41 q50 q59 q77 q85 q93 q101 q110 q119 q127 q134 q141 : Nat), u = [(h0, eO 7 [.ref q7, .int 0, .ref q15, .ref q23, .int 0, .ref q32, .ref q41, .int 0, .ref q50, .ref q59, .int (1 : Int32), .int (1 : Int32), .ref q77, .int 0, .ref q85, .ref q93, .ref q101, .ref q110, .ref q119, .int 0, .int 0, .ref q127, .ref q134, .int 0, .int 0, .int 0, .ref q141]), (q7, eJ 8 (fun _ => 0)), (q15, eI 12 (fun _ => 0)), (q23, eI 12 (fun _ => 0)), (q32, eJ 1200 (fun _ => 0)), (q41, eI 900 (fun _ => 0)), (q50, eJ 1200 (fun _ => 0)), (q59, eZ 1200 (fun _ => 0)), (q77, eI 25 (fun _ => 0)), (q85, eI 6 (fun _ => 0)), (q93, eI 6 (fun _ => 0)), (q101, eJ 8 (fun _ => 0)), (q110, eJ 1200 (fun _ => 0)), (q119, eI 900 (fun _ => 0)), (q127, eJ 25 (fun _ => 0)), (q134, eI 5 (fun _ => 0)), (q141, eI 4 (fun _ => 0))]) := by
  refine CtC_of (cc := cX9_init) (maxL := 1) (own := RX9) rfl (by decide) rfl rfl (lv0 := [(0, .ref h0)]) rfl (Nat.le_of_ble_eq_true rfl) (fun Γ hL C hin hR => ?_)
  subst hL
  refine V_aload_n C 0 dX9_init_0 rfl rfl ?_
  refine V_obj C mX9_init_1 mX9_init_2 mX9_init_3 ⟨Nat.le_of_ble_eq_true rfl, Nat.le_of_ble_eq_true rfl⟩ dX9_init_1 ?_
  refine V_aload_n C 0 dX9_init_4 rfl rfl ?_
  refine V_bipush C (v := (8 : Int32)) dX9_init_5 (by decide) ?_
  refine V_newJ C (N := 8) mX9_init_4 ⟨by decide, by decide, by decide⟩ ⟨Nat.le_of_ble_eq_true rfl, Nat.le_of_ble_eq_true rfl⟩ dX9_init_7 (fun q7 => ?_)
  refine V_putF C hin (ty := .array .long) (v := .ref q7) uX9_init_X9 tyX9 tyX9_ok nmX9 0 0 rfl rfl (by decide) mX9_init_5 rfl rfl (by decide +kernel) rfl rfl (Nat.le_of_ble_eq_true rfl) dX9_init_9 (ws' := [(h0, eO 7 [.ref q7, .int 0, .null, .null, .int 0, .null, .null, .int 0, .null, .null, .int 0, .int 0, .null, .int 0, .null, .null, .null, .null, .null, .int 0, .int 0, .null, .null, .int 0, .int 0, .int 0, .null]), (q7, eJ 8 (fun _ => 0))]) rfl ?_
  refine V_aload_n C 0 dX9_init_12 rfl rfl ?_
  refine V_bipush C (v := (12 : Int32)) dX9_init_13 (by decide) ?_
  refine V_newI C (N := 12) mX9_init_6 ⟨by decide, by decide, by decide⟩ ⟨Nat.le_of_ble_eq_true rfl, Nat.le_of_ble_eq_true rfl⟩ dX9_init_15 (fun q15 => ?_)
  refine V_putF C hin (ty := .array .int) (v := .ref q15) uX9_init_X9 tyX9 tyX9_ok nmX9 0 2 rfl rfl (by decide) mX9_init_7 rfl rfl (by decide +kernel) rfl rfl (Nat.le_of_ble_eq_true rfl) dX9_init_17 (ws' := [(h0, eO 7 [.ref q7, .int 0, .ref q15, .null, .int 0, .null, .null, .int 0, .null, .null, .int 0, .int 0, .null, .int 0, .null, .null, .null, .null, .null, .int 0, .int 0, .null, .null, .int 0, .int 0, .int 0, .null]), (q7, eJ 8 (fun _ => 0)), (q15, eI 12 (fun _ => 0))]) rfl ?_
  refine V_aload_n C 0 dX9_init_20 rfl rfl ?_
  refine V_bipush C (v := (12 : Int32)) dX9_init_21 (by decide) ?_
  refine V_newI C (N := 12) mX9_init_6 ⟨by decide, by decide, by decide⟩ ⟨Nat.le_of_ble_eq_true rfl, Nat.le_of_ble_eq_true rfl⟩ dX9_init_23 (fun q23 => ?_)
  refine V_putF C hin (ty := .array .int) (v := .ref q23) uX9_init_X9 tyX9 tyX9_ok nmX9 0 3 rfl rfl (by decide) mX9_init_8 rfl rfl (by decide +kernel) rfl rfl (Nat.le_of_ble_eq_true rfl) dX9_init_25 (ws' := [(h0, eO 7 [.ref q7, .int 0, .ref q15, .ref q23, .int 0, .null, .null, .int 0, .null, .null, .int 0, .int 0, .null, .int 0, .null, .null, .null, .null, .null, .int 0, .int 0, .null, .null, .int 0, .int 0, .int 0, .null]), (q7, eJ 8 (fun _ => 0)), (q15, eI 12 (fun _ => 0)), (q23, eI 12 (fun _ => 0))]) rfl ?_
  refine V_aload_n C 0 dX9_init_28 rfl rfl ?_
  refine V_sipush C (v := (1200 : Int32)) dX9_init_29 (by decide) ?_
  refine V_newJ C (N := 1200) mX9_init_4 ⟨by decide, by decide, by decide⟩ ⟨Nat.le_of_ble_eq_true rfl, Nat.le_of_ble_eq_true rfl⟩ dX9_init_32 (fun q32 => ?_)
  refine V_putF C hin (ty := .array .long) (v := .ref q32) uX9_init_X9 tyX9 tyX9_ok nmX9 0 5 rfl rfl (by decide) mX9_init_9 rfl rfl (by decide +kernel) rfl rfl (Nat.le_of_ble_eq_true rfl) dX9_init_34 (ws' := [(h0, eO 7 [.ref q7, .int 0, .ref q15, .ref q23, .int 0, .ref q32, .null, .int 0, .null, .null, .int 0, .int 0, .null, .int 0, .null, .null, .null, .null, .null, .int 0, .int 0, .null, .null, .int 0, .int 0, .int 0, .null]), (q7, eJ 8 (fun _ => 0)), (q15, eI 12 (fun _ => 0)), (q23, eI 12 (fun _ => 0)), (q32, eJ 1200 (fun _ => 0))]) rfl ?_
  refine V_aload_n C 0 dX9_init_37 rfl rfl ?_
  refine V_sipush C (v := (900 : Int32)) dX9_init_38 (by decide) ?_
  refine V_newI C (N := 900) mX9_init_6 ⟨by decide, by decide, by decide⟩ ⟨Nat.le_of_ble_eq_true rfl, Nat.le_of_ble_eq_true rfl⟩ dX9_init_41 (fun q41 => ?_)
  refine V_putF C hin (ty := .array .int) (v := .ref q41) uX9_init_X9 tyX9 tyX9_ok nmX9 0 6 rfl rfl (by decide) mX9_init_10 rfl rfl (by decide +kernel) rfl rfl (Nat.le_of_ble_eq_true rfl) dX9_init_43 (ws' := [(h0, eO 7 [.ref q7, .int 0, .ref q15, .ref q23, .int 0, .ref q32, .ref q41, .int 0, .null, .null, .int 0, .int 0, .null, .int 0, .null, .null, .null, .null, .null, .int 0, .int 0, .null, .null, .int 0, .int 0, .int 0, .null]), (q7, eJ 8 (fun _ => 0)), (q15, eI 12 (fun _ => 0)), (q23, eI 12 (fun _ => 0)), (q32, eJ 1200 (fun _ => 0)), (q41, eI 900 (fun _ => 0))]) rfl ?_
  refine V_aload_n C 0 dX9_init_46 rfl rfl ?_
  refine V_sipush C (v := (1200 : Int32)) dX9_init_47 (by decide) ?_
  refine V_newJ C (N := 1200) mX9_init_4 ⟨by decide, by decide, by decide⟩ ⟨Nat.le_of_ble_eq_true rfl, Nat.le_of_ble_eq_true rfl⟩ dX9_init_50 (fun q50 => ?_)
  refine V_putF C hin (ty := .array .long) (v := .ref q50) uX9_init_X9 tyX9 tyX9_ok nmX9 0 8 rfl rfl (by decide) mX9_init_11 rfl rfl (by decide +kernel) rfl rfl (Nat.le_of_ble_eq_true rfl) dX9_init_52 (ws' := [(h0, eO 7 [.ref q7, .int 0, .ref q15, .ref q23, .int 0, .ref q32, .ref q41, .int 0, .ref q50, .null, .int 0, .int 0, .null, .int 0, .null, .null, .null, .null, .null, .int 0, .int 0, .null, .null, .int 0, .int 0, .int 0, .null]), (q7, eJ 8 (fun _ => 0)), (q15, eI 12 (fun _ => 0)), (q23, eI 12 (fun _ => 0)), (q32, eJ 1200 (fun _ => 0)), (q41, eI 900 (fun _ => 0)), (q50, eJ 1200 (fun _ => 0))]) rfl ?_
  refine V_aload_n C 0 dX9_init_55 rfl rfl ?_
  refine V_sipush C (v := (1200 : Int32)) dX9_init_56 (by decide) ?_
  refine V_newZ C (N := 1200) mX9_init_12 ⟨by decide, by decide, by decide⟩ ⟨Nat.le_of_ble_eq_true rfl, Nat.le_of_ble_eq_true rfl⟩ dX9_init_59 (fun q59 => ?_)
  refine V_putF C hin (ty := .array .boolean) (v := .ref q59) uX9_init_X9 tyX9 tyX9_ok nmX9 0 9 rfl rfl (by decide) mX9_init_13 rfl rfl (by decide +kernel) rfl rfl (Nat.le_of_ble_eq_true rfl) dX9_init_61 (ws' := [(h0, eO 7 [.ref q7, .int 0, .ref q15, .ref q23, .int 0, .ref q32, .ref q41, .int 0, .ref q50, .ref q59, .int 0, .int 0, .null, .int 0, .null, .null, .null, .null, .null, .int 0, .int 0, .null, .null, .int 0, .int 0, .int 0, .null]), (q7, eJ 8 (fun _ => 0)), (q15, eI 12 (fun _ => 0)), (q23, eI 12 (fun _ => 0)), (q32, eJ 1200 (fun _ => 0)), (q41, eI 900 (fun _ => 0)), (q50, eJ 1200 (fun _ => 0)), (q59, eZ 1200 (fun _ => 0))]) rfl ?_
  refine V_aload_n C 0 dX9_init_64 rfl rfl ?_
  refine V_iconst C (v := (1 : Int32)) dX9_init_65 (by decide) ?_
  refine V_put C (ty := .int) (v := .int (1 : Int32)) uX9_init_X9 tyX9 tyX9_ok nmX9 0 10 rfl rfl (by decide) mX9_init_14 rfl (by decide +kernel) rfl rfl (Nat.le_of_ble_eq_true rfl) dX9_init_66 (ws' := [(h0, eO 7 [.ref q7, .int 0, .ref q15, .ref q23, .int 0, .ref q32, .ref q41, .int 0, .ref q50, .ref q59, .int (1 : Int32), .int 0, .null, .int 0, .null, .null, .null, .null, .null, .int 0, .int 0, .null, .null, .int 0, .int 0, .int 0, .null]), (q7, eJ 8 (fun _ => 0)), (q15, eI 12 (fun _ => 0)), (q23, eI 12 (fun _ => 0)), (q32, eJ 1200 (fun _ => 0)), (q41, eI 900 (fun _ => 0)), (q50, eJ 1200 (fun _ => 0)), (q59, eZ 1200 (fun _ => 0))]) rfl ?_
  refine V_aload_n C 0 dX9_init_69 rfl rfl ?_
  refine V_iconst C (v := (1 : Int32)) dX9_init_70 (by decide) ?_
  refine V_put C (ty := .int) (v := .int (1 : Int32)) uX9_init_X9 tyX9 tyX9_ok nmX9 0 11 rfl rfl (by decide) mX9_init_15 rfl (by decide +kernel) rfl rfl (Nat.le_of_ble_eq_true rfl) dX9_init_71 (ws' := [(h0, eO 7 [.ref q7, .int 0, .ref q15, .ref q23, .int 0, .ref q32, .ref q41, .int 0, .ref q50, .ref q59, .int (1 : Int32), .int (1 : Int32), .null, .int 0, .null, .null, .null, .null, .null, .int 0, .int 0, .null, .null, .int 0, .int 0, .int 0, .null]), (q7, eJ 8 (fun _ => 0)), (q15, eI 12 (fun _ => 0)), (q23, eI 12 (fun _ => 0)), (q32, eJ 1200 (fun _ => 0)), (q41, eI 900 (fun _ => 0)), (q50, eJ 1200 (fun _ => 0)), (q59, eZ 1200 (fun _ => 0))]) rfl ?_
  refine V_aload_n C 0 dX9_init_74 rfl rfl ?_
  refine V_bipush C (v := (25 : Int32)) dX9_init_75 (by decide) ?_
  refine V_newI C (N := 25) mX9_init_6 ⟨by decide, by decide, by decide⟩ ⟨Nat.le_of_ble_eq_true rfl, Nat.le_of_ble_eq_true rfl⟩ dX9_init_77 (fun q77 => ?_)
  refine V_putF C hin (ty := .array .int) (v := .ref q77) uX9_init_X9 tyX9 tyX9_ok nmX9 0 12 rfl rfl (by decide) mX9_init_16 rfl rfl (by decide +kernel) rfl rfl (Nat.le_of_ble_eq_true rfl) dX9_init_79 (ws' := [(h0, eO 7 [.ref q7, .int 0, .ref q15, .ref q23, .int 0, .ref q32, .ref q41, .int 0, .ref q50, .ref q59, .int (1 : Int32), .int (1 : Int32), .ref q77, .int 0, .null, .null, .null, .null, .null, .int 0, .int 0, .null, .null, .int 0, .int 0, .int 0, .null]), (q7, eJ 8 (fun _ => 0)), (q15, eI 12 (fun _ => 0)), (q23, eI 12 (fun _ => 0)), (q32, eJ 1200 (fun _ => 0)), (q41, eI 900 (fun _ => 0)), (q50, eJ 1200 (fun _ => 0)), (q59, eZ 1200 (fun _ => 0)), (q77, eI 25 (fun _ => 0))]) rfl ?_
  refine V_aload_n C 0 dX9_init_82 rfl rfl ?_
  refine V_bipush C (v := (6 : Int32)) dX9_init_83 (by decide) ?_
  refine V_newI C (N := 6) mX9_init_6 ⟨by decide, by decide, by decide⟩ ⟨Nat.le_of_ble_eq_true rfl, Nat.le_of_ble_eq_true rfl⟩ dX9_init_85 (fun q85 => ?_)
  refine V_putF C hin (ty := .array .int) (v := .ref q85) uX9_init_X9 tyX9 tyX9_ok nmX9 0 14 rfl rfl (by decide) mX9_init_17 rfl rfl (by decide +kernel) rfl rfl (Nat.le_of_ble_eq_true rfl) dX9_init_87 (ws' := [(h0, eO 7 [.ref q7, .int 0, .ref q15, .ref q23, .int 0, .ref q32, .ref q41, .int 0, .ref q50, .ref q59, .int (1 : Int32), .int (1 : Int32), .ref q77, .int 0, .ref q85, .null, .null, .null, .null, .int 0, .int 0, .null, .null, .int 0, .int 0, .int 0, .null]), (q7, eJ 8 (fun _ => 0)), (q15, eI 12 (fun _ => 0)), (q23, eI 12 (fun _ => 0)), (q32, eJ 1200 (fun _ => 0)), (q41, eI 900 (fun _ => 0)), (q50, eJ 1200 (fun _ => 0)), (q59, eZ 1200 (fun _ => 0)), (q77, eI 25 (fun _ => 0)), (q85, eI 6 (fun _ => 0))]) rfl ?_
  refine V_aload_n C 0 dX9_init_90 rfl rfl ?_
  refine V_bipush C (v := (6 : Int32)) dX9_init_91 (by decide) ?_
  refine V_newI C (N := 6) mX9_init_6 ⟨by decide, by decide, by decide⟩ ⟨Nat.le_of_ble_eq_true rfl, Nat.le_of_ble_eq_true rfl⟩ dX9_init_93 (fun q93 => ?_)
  refine V_putF C hin (ty := .array .int) (v := .ref q93) uX9_init_X9 tyX9 tyX9_ok nmX9 0 15 rfl rfl (by decide) mX9_init_18 rfl rfl (by decide +kernel) rfl rfl (Nat.le_of_ble_eq_true rfl) dX9_init_95 (ws' := [(h0, eO 7 [.ref q7, .int 0, .ref q15, .ref q23, .int 0, .ref q32, .ref q41, .int 0, .ref q50, .ref q59, .int (1 : Int32), .int (1 : Int32), .ref q77, .int 0, .ref q85, .ref q93, .null, .null, .null, .int 0, .int 0, .null, .null, .int 0, .int 0, .int 0, .null]), (q7, eJ 8 (fun _ => 0)), (q15, eI 12 (fun _ => 0)), (q23, eI 12 (fun _ => 0)), (q32, eJ 1200 (fun _ => 0)), (q41, eI 900 (fun _ => 0)), (q50, eJ 1200 (fun _ => 0)), (q59, eZ 1200 (fun _ => 0)), (q77, eI 25 (fun _ => 0)), (q85, eI 6 (fun _ => 0)), (q93, eI 6 (fun _ => 0))]) rfl ?_
  refine V_aload_n C 0 dX9_init_98 rfl rfl ?_
  refine V_bipush C (v := (8 : Int32)) dX9_init_99 (by decide) ?_
  refine V_newJ C (N := 8) mX9_init_4 ⟨by decide, by decide, by decide⟩ ⟨Nat.le_of_ble_eq_true rfl, Nat.le_of_ble_eq_true rfl⟩ dX9_init_101 (fun q101 => ?_)
  refine V_putF C hin (ty := .array .long) (v := .ref q101) uX9_init_X9 tyX9 tyX9_ok nmX9 0 16 rfl rfl (by decide) mX9_init_19 rfl rfl (by decide +kernel) rfl rfl (Nat.le_of_ble_eq_true rfl) dX9_init_103 (ws' := [(h0, eO 7 [.ref q7, .int 0, .ref q15, .ref q23, .int 0, .ref q32, .ref q41, .int 0, .ref q50, .ref q59, .int (1 : Int32), .int (1 : Int32), .ref q77, .int 0, .ref q85, .ref q93, .ref q101, .null, .null, .int 0, .int 0, .null, .null, .int 0, .int 0, .int 0, .null]), (q7, eJ 8 (fun _ => 0)), (q15, eI 12 (fun _ => 0)), (q23, eI 12 (fun _ => 0)), (q32, eJ 1200 (fun _ => 0)), (q41, eI 900 (fun _ => 0)), (q50, eJ 1200 (fun _ => 0)), (q59, eZ 1200 (fun _ => 0)), (q77, eI 25 (fun _ => 0)), (q85, eI 6 (fun _ => 0)), (q93, eI 6 (fun _ => 0)), (q101, eJ 8 (fun _ => 0))]) rfl ?_
  refine V_aload_n C 0 dX9_init_106 rfl rfl ?_
  refine V_sipush C (v := (1200 : Int32)) dX9_init_107 (by decide) ?_
  refine V_newJ C (N := 1200) mX9_init_4 ⟨by decide, by decide, by decide⟩ ⟨Nat.le_of_ble_eq_true rfl, Nat.le_of_ble_eq_true rfl⟩ dX9_init_110 (fun q110 => ?_)
  refine V_putF C hin (ty := .array .long) (v := .ref q110) uX9_init_X9 tyX9 tyX9_ok nmX9 0 17 rfl rfl (by decide) mX9_init_20 rfl rfl (by decide +kernel) rfl rfl (Nat.le_of_ble_eq_true rfl) dX9_init_112 (ws' := [(h0, eO 7 [.ref q7, .int 0, .ref q15, .ref q23, .int 0, .ref q32, .ref q41, .int 0, .ref q50, .ref q59, .int (1 : Int32), .int (1 : Int32), .ref q77, .int 0, .ref q85, .ref q93, .ref q101, .ref q110, .null, .int 0, .int 0, .null, .null, .int 0, .int 0, .int 0, .null]), (q7, eJ 8 (fun _ => 0)), (q15, eI 12 (fun _ => 0)), (q23, eI 12 (fun _ => 0)), (q32, eJ 1200 (fun _ => 0)), (q41, eI 900 (fun _ => 0)), (q50, eJ 1200 (fun _ => 0)), (q59, eZ 1200 (fun _ => 0)), (q77, eI 25 (fun _ => 0)), (q85, eI 6 (fun _ => 0)), (q93, eI 6 (fun _ => 0)), (q101, eJ 8 (fun _ => 0)), (q110, eJ 1200 (fun _ => 0))]) rfl ?_
  refine V_aload_n C 0 dX9_init_115 rfl rfl ?_
  refine V_sipush C (v := (900 : Int32)) dX9_init_116 (by decide) ?_
  refine V_newI C (N := 900) mX9_init_6 ⟨by decide, by decide, by decide⟩ ⟨Nat.le_of_ble_eq_true rfl, Nat.le_of_ble_eq_true rfl⟩ dX9_init_119 (fun q119 => ?_)
  refine V_putF C hin (ty := .array .int) (v := .ref q119) uX9_init_X9 tyX9 tyX9_ok nmX9 0 18 rfl rfl (by decide) mX9_init_21 rfl rfl (by decide +kernel) rfl rfl (Nat.le_of_ble_eq_true rfl) dX9_init_121 (ws' := [(h0, eO 7 [.ref q7, .int 0, .ref q15, .ref q23, .int 0, .ref q32, .ref q41, .int 0, .ref q50, .ref q59, .int (1 : Int32), .int (1 : Int32), .ref q77, .int 0, .ref q85, .ref q93, .ref q101, .ref q110, .ref q119, .int 0, .int 0, .null, .null, .int 0, .int 0, .int 0, .null]), (q7, eJ 8 (fun _ => 0)), (q15, eI 12 (fun _ => 0)), (q23, eI 12 (fun _ => 0)), (q32, eJ 1200 (fun _ => 0)), (q41, eI 900 (fun _ => 0)), (q50, eJ 1200 (fun _ => 0)), (q59, eZ 1200 (fun _ => 0)), (q77, eI 25 (fun _ => 0)), (q85, eI 6 (fun _ => 0)), (q93, eI 6 (fun _ => 0)), (q101, eJ 8 (fun _ => 0)), (q110, eJ 1200 (fun _ => 0)), (q119, eI 900 (fun _ => 0))]) rfl ?_
  refine V_aload_n C 0 dX9_init_124 rfl rfl ?_
  refine V_bipush C (v := (25 : Int32)) dX9_init_125 (by decide) ?_
  refine V_newJ C (N := 25) mX9_init_4 ⟨by decide, by decide, by decide⟩ ⟨Nat.le_of_ble_eq_true rfl, Nat.le_of_ble_eq_true rfl⟩ dX9_init_127 (fun q127 => ?_)
  refine V_putF C hin (ty := .array .long) (v := .ref q127) uX9_init_X9 tyX9 tyX9_ok nmX9 0 21 rfl rfl (by decide) mX9_init_22 rfl rfl (by decide +kernel) rfl rfl (Nat.le_of_ble_eq_true rfl) dX9_init_129 (ws' := [(h0, eO 7 [.ref q7, .int 0, .ref q15, .ref q23, .int 0, .ref q32, .ref q41, .int 0, .ref q50, .ref q59, .int (1 : Int32), .int (1 : Int32), .ref q77, .int 0, .ref q85, .ref q93, .ref q101, .ref q110, .ref q119, .int 0, .int 0, .ref q127, .null, .int 0, .int 0, .int 0, .null]), (q7, eJ 8 (fun _ => 0)), (q15, eI 12 (fun _ => 0)), (q23, eI 12 (fun _ => 0)), (q32, eJ 1200 (fun _ => 0)), (q41, eI 900 (fun _ => 0)), (q50, eJ 1200 (fun _ => 0)), (q59, eZ 1200 (fun _ => 0)), (q77, eI 25 (fun _ => 0)), (q85, eI 6 (fun _ => 0)), (q93, eI 6 (fun _ => 0)), (q101, eJ 8 (fun _ => 0)), (q110, eJ 1200 (fun _ => 0)), (q119, eI 900 (fun _ => 0)), (q127, eJ 25 (fun _ => 0))]) rfl ?_
  refine V_aload_n C 0 dX9_init_132 rfl rfl ?_
  refine V_iconst C (v := (5 : Int32)) dX9_init_133 (by decide) ?_
  refine V_newI C (N := 5) mX9_init_6 ⟨by decide, by decide, by decide⟩ ⟨Nat.le_of_ble_eq_true rfl, Nat.le_of_ble_eq_true rfl⟩ dX9_init_134 (fun q134 => ?_)
  refine V_putF C hin (ty := .array .int) (v := .ref q134) uX9_init_X9 tyX9 tyX9_ok nmX9 0 22 rfl rfl (by decide) mX9_init_23 rfl rfl (by decide +kernel) rfl rfl (Nat.le_of_ble_eq_true rfl) dX9_init_136 (ws' := [(h0, eO 7 [.ref q7, .int 0, .ref q15, .ref q23, .int 0, .ref q32, .ref q41, .int 0, .ref q50, .ref q59, .int (1 : Int32), .int (1 : Int32), .ref q77, .int 0, .ref q85, .ref q93, .ref q101, .ref q110, .ref q119, .int 0, .int 0, .ref q127, .ref q134, .int 0, .int 0, .int 0, .null]), (q7, eJ 8 (fun _ => 0)), (q15, eI 12 (fun _ => 0)), (q23, eI 12 (fun _ => 0)), (q32, eJ 1200 (fun _ => 0)), (q41, eI 900 (fun _ => 0)), (q50, eJ 1200 (fun _ => 0)), (q59, eZ 1200 (fun _ => 0)), (q77, eI 25 (fun _ => 0)), (q85, eI 6 (fun _ => 0)), (q93, eI 6 (fun _ => 0)), (q101, eJ 8 (fun _ => 0)), (q110, eJ 1200 (fun _ => 0)), (q119, eI 900 (fun _ => 0)), (q127, eJ 25 (fun _ => 0)), (q134, eI 5 (fun _ => 0))]) rfl ?_
  refine V_aload_n C 0 dX9_init_139 rfl rfl ?_
  refine V_iconst C (v := (4 : Int32)) dX9_init_140 (by decide) ?_
  refine V_newI C (N := 4) mX9_init_6 ⟨by decide, by decide, by decide⟩ ⟨Nat.le_of_ble_eq_true rfl, Nat.le_of_ble_eq_true rfl⟩ dX9_init_141 (fun q141 => ?_)
  refine V_putF C hin (ty := .array .int) (v := .ref q141) uX9_init_X9 tyX9 tyX9_ok nmX9 0 26 rfl rfl (by decide) mX9_init_24 rfl rfl (by decide +kernel) rfl rfl (Nat.le_of_ble_eq_true rfl) dX9_init_143 (ws' := [(h0, eO 7 [.ref q7, .int 0, .ref q15, .ref q23, .int 0, .ref q32, .ref q41, .int 0, .ref q50, .ref q59, .int (1 : Int32), .int (1 : Int32), .ref q77, .int 0, .ref q85, .ref q93, .ref q101, .ref q110, .ref q119, .int 0, .int 0, .ref q127, .ref q134, .int 0, .int 0, .int 0, .ref q141]), (q7, eJ 8 (fun _ => 0)), (q15, eI 12 (fun _ => 0)), (q23, eI 12 (fun _ => 0)), (q32, eJ 1200 (fun _ => 0)), (q41, eI 900 (fun _ => 0)), (q50, eJ 1200 (fun _ => 0)), (q59, eZ 1200 (fun _ => 0)), (q77, eI 25 (fun _ => 0)), (q85, eI 6 (fun _ => 0)), (q93, eI 6 (fun _ => 0)), (q101, eJ 8 (fun _ => 0)), (q110, eJ 1200 (fun _ => 0)), (q119, eI 900 (fun _ => 0)), (q127, eJ 25 (fun _ => 0)), (q134, eI 5 (fun _ => 0)), (q141, eI 4 (fun _ => 0))]) rfl ?_
  refine V_perm [0, 1, 2, 3, 4, 5, 6, 7, 8, 9, 10, 11, 12, 13, 14, 15, 16] (ws' := [(h0, eO 7 [.ref q7, .int 0, .ref q15, .ref q23, .int 0, .ref q32, .ref q41, .int 0, .ref q50, .ref q59, .int (1 : Int32), .int (1 : Int32), .ref q77, .int 0, .ref q85, .ref q93, .ref q101, .ref q110, .ref q119, .int 0, .int 0, .ref q127, .ref q134, .int 0, .int 0, .int 0, .ref q141]), (q7, eJ 8 (fun _ => 0)), (q15, eI 12 (fun _ => 0)), (q23, eI 12 (fun _ => 0)), (q32, eJ 1200 (fun _ => 0)), (q41, eI 900 (fun _ => 0)), (q50, eJ 1200 (fun _ => 0)), (q59, eZ 1200 (fun _ => 0)), (q77, eI 25 (fun _ => 0)), (q85, eI 6 (fun _ => 0)), (q93, eI 6 (fun _ => 0)), (q101, eJ 8 (fun _ => 0)), (q110, eJ 1200 (fun _ => 0)), (q119, eI 900 (fun _ => 0)), (q127, eJ 25 (fun _ => 0)), (q134, eI 5 (fun _ => 0)), (q141, eI 4 (fun _ => 0))]) rfl rfl ?_
  exact hR _ _ _ ⟨q7, q15, q23, q32, q41, q50, q59, q77, q85, q93, q101, q110, q119, q127, q134, q141, rfl⟩ dX9_init_146
theorem hdX9_init : yX9_init.cls ≠ "java/lang/invoke/MethodHandle" ∧ yX9_init.cls ≠ "java/lang/invoke/VarHandle" ∧ (parseMethodDescriptor yX9_init.desc).map (fun d => d.parameters.length) = some 0 := by decide +kernel
