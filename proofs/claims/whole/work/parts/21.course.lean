-- RodBoard$Course.size()I
theorem uX3_size_X3 : ∀ w ∈ wsX30, w ∈ wsX3_size := fun _ h => List.mem_cons_of_mem _ (List.mem_append_right _ h)
theorem mX3_size_1 : Cond.fieldLink RX3 19 "RodBoard$Course" "boards" "I" ∈ wsX3_size := List.mem_of_getElem? (i := 1) rfl
def fX3_size (s_boards : Int32) : Option ((Int32)) := some s_boards
set_option maxHeartbeats 4000000 in
set_option maxRecDepth 100000 in
theorem kX3_size {l : Launch} (h0 : Nat) (a_s_cells : Nat) (a_s_notes : Nat) (s_boards : Int32) (s_cells : Nat → Int64) (s_notes : Nat → Int32) (r : Int32) (hm : fX3_size s_boards = some r) : CtI l yX3_size wsX3_size ({ frames := 0, cells := 0, slots := 0, locals := 0 } : Room) [.ref h0] [(h0, eO 3 [.ref a_s_cells, .ref a_s_notes, .int s_boards]), (a_s_cells, eJ 392 s_cells), (a_s_notes, eI 288 s_notes)] r [(h0, eO 3 [.ref a_s_cells, .ref a_s_notes, .int s_boards]), (a_s_cells, eJ 392 s_cells), (a_s_notes, eI 288 s_notes)] := by
  refine CtI_of (cc := cX3_size) (maxL := 1) (ty := .int) (own := RX3) rfl (by decide) rfl (lv0 := [(0, .ref h0)]) rfl (Nat.le_of_ble_eq_true rfl) (fun Γ hL C hR => ?_)
  subst hL
  unfold fX3_size at hm
  refine V_aload_n C 0 dX3_size_0 rfl rfl ?_
  refine V_get C uX3_size_X3 0 2 rfl rfl (by decide) mX3_size_1 rfl dX3_size_1 ?_
  cases hm
  exact hR _ _ rfl dX3_size_4
theorem hdX3_size : yX3_size.cls = RX3 ∧ yX3_size.cls ≠ "java/lang/invoke/MethodHandle" ∧ yX3_size.cls ≠ "java/lang/invoke/VarHandle" ∧ (parseMethodDescriptor yX3_size.desc).map (fun d => d.parameters.length) = some 0 := by decide +kernel
-- RodBoard$Course.steps()I
theorem uX3_steps_X3 : ∀ w ∈ wsX30, w ∈ wsX3_steps := fun _ h => List.mem_cons_of_mem _ (List.mem_append_right _ h)
theorem mX3_steps_1 : Cond.fieldLink RX3 19 "RodBoard$Course" "boards" "I" ∈ wsX3_steps := List.mem_of_getElem? (i := 1) rfl
def fX3_steps (s_boards : Int32) : Option ((Int32)) := if s_boards = (0 : Int32) then some (0 : Int32) else some (s_boards - (1 : Int32))
set_option maxHeartbeats 4000000 in
set_option maxRecDepth 100000 in
theorem kX3_steps {l : Launch} (h0 : Nat) (a_s_cells : Nat) (a_s_notes : Nat) (s_boards : Int32) (s_cells : Nat → Int64) (s_notes : Nat → Int32) (r : Int32) (hm : fX3_steps s_boards = some r) : CtI l yX3_steps wsX3_steps ({ frames := 0, cells := 0, slots := 0, locals := 0 } : Room) [.ref h0] [(h0, eO 3 [.ref a_s_cells, .ref a_s_notes, .int s_boards]), (a_s_cells, eJ 392 s_cells), (a_s_notes, eI 288 s_notes)] r [(h0, eO 3 [.ref a_s_cells, .ref a_s_notes, .int s_boards]), (a_s_cells, eJ 392 s_cells), (a_s_notes, eI 288 s_notes)] := by
  refine CtI_of (cc := cX3_steps) (maxL := 1) (ty := .int) (own := RX3) rfl (by decide) rfl (lv0 := [(0, .ref h0)]) rfl (Nat.le_of_ble_eq_true rfl) (fun Γ hL C hR => ?_)
  subst hL
  unfold fX3_steps at hm
  refine V_aload_n C 0 dX3_steps_0 rfl rfl ?_
  refine V_get C uX3_steps_X3 0 2 rfl rfl (by decide) mX3_steps_1 rfl dX3_steps_1 ?_
  refine V_if_ne C 11 dX3_steps_4 (by decide) (fun c_1 => ?_) (fun c_1 => ?_)
  · have hm := ite_t c_1 hm
    refine V_iconst C (v := (0 : Int32)) dX3_steps_7 (by decide) ?_
    refine V_goto C 17 dX3_steps_8 (by decide) ?_
    cases hm
    exact hR _ _ rfl dX3_steps_17
  · have hm := ite_f c_1 hm
    refine V_aload_n C 0 dX3_steps_11 rfl rfl ?_
    refine V_get C uX3_steps_X3 0 2 rfl rfl (by decide) mX3_steps_1 rfl dX3_steps_12 ?_
    refine V_iconst C (v := (1 : Int32)) dX3_steps_15 (by decide) ?_
    refine V_isub C dX3_steps_16 ?_
    cases hm
    exact hR _ _ rfl dX3_steps_17
theorem hdX3_steps : yX3_steps.cls = RX3 ∧ yX3_steps.cls ≠ "java/lang/invoke/MethodHandle" ∧ yX3_steps.cls ≠ "java/lang/invoke/VarHandle" ∧ (parseMethodDescriptor yX3_steps.desc).map (fun d => d.parameters.length) = some 0 := by decide +kernel
-- RodBoard$Course.has(II)Z
theorem uX3_has_X3 : ∀ w ∈ wsX30, w ∈ wsX3_has := fun _ h => List.mem_cons_of_mem _ (List.mem_append_right _ h)
theorem mX3_has_1 : Cond.fieldLink RX3 19 "RodBoard$Course" "boards" "I" ∈ wsX3_has := List.mem_of_getElem? (i := 1) rfl
theorem mX3_has_3 : Cond.initialized RX8 ∈ wsX3_has := List.mem_of_getElem? (i := 3) rfl
theorem mX3_has_2 : Cond.static yX8_isRow ∈ wsX3_has := List.mem_of_getElem? (i := 2) rfl
def fX3_has (p0 : Int32) (p1 : Int32) (s_boards : Int32) : Option ((Int32)) := if p0 < (0 : Int32) then some (0 : Int32) else if p0 < s_boards then Option.bind (fX8_isRow p1) (fun r_3 => if r_3 = (0 : Int32) then some (0 : Int32) else some (1 : Int32)) else some (0 : Int32)
set_option maxHeartbeats 4000000 in
set_option maxRecDepth 100000 in
theorem kX3_has {l : Launch} (h0 : Nat) (a_s_cells : Nat) (a_s_notes : Nat) (s_boards : Int32) (s_cells : Nat → Int64) (s_notes : Nat → Int32) (p0 : Int32) (p1 : Int32) (r : Int32) (hm : fX3_has p0 p1 s_boards = some r) : CtI l yX3_has wsX3_has ({ frames := 1, cells := 0, slots := 0, locals := 20 } : Room) [.ref h0, .int p0, .int p1] [(h0, eO 3 [.ref a_s_cells, .ref a_s_notes, .int s_boards]), (a_s_cells, eJ 392 s_cells), (a_s_notes, eI 288 s_notes)] r [(h0, eO 3 [.ref a_s_cells, .ref a_s_notes, .int s_boards]), (a_s_cells, eJ 392 s_cells), (a_s_notes, eI 288 s_notes)] := by
  refine CtI_of (cc := cX3_has) (maxL := 3) (ty := .boolean) (own := RX3) rfl (by decide) rfl (lv0 := [(0, .ref h0), (1, .int p0), (2, .int p1)]) rfl (Nat.le_of_ble_eq_true rfl) (fun Γ hL C hR => ?_)
  subst hL
  unfold fX3_has at hm
  refine V_iload_n C 1 dX3_has_0 rfl rfl ?_
  refine V_if_lt C 23 dX3_has_1 (by decide) (fun c_1 => ?_) (fun c_1 => ?_)
  · have hm := ite_t c_1 hm
    refine V_iconst C (v := (0 : Int32)) dX3_has_23 (by decide) ?_
    cases hm
    exact hR _ _ rfl dX3_has_24
  · have hm := ite_f c_1 hm
    refine V_iload_n C 1 dX3_has_4 rfl rfl ?_
    refine V_aload_n C 0 dX3_has_5 rfl rfl ?_
    refine V_get C uX3_has_X3 0 2 rfl rfl (by decide) mX3_has_1 rfl dX3_has_6 ?_
    refine V_icmp_ge C 23 dX3_has_9 (by decide) (fun c_2 => ?_) (fun c_2 => ?_)
    · have hm := ite_t c_2 hm
      refine V_iload_n C 2 dX3_has_12 rfl rfl ?_
      obtain ⟨r_3, hc_4, hm⟩ := bnd hm
      refine V_callSNI C (As := [.int p1]) (wr := [(h0, eO 3 [.ref a_s_cells, .ref a_s_notes, .int s_boards]), (a_s_cells, eJ 392 s_cells), (a_s_notes, eI 288 s_notes)]) (ws2 := [(h0, eO 3 [.ref a_s_cells, .ref a_s_notes, .int s_boards]), (a_s_cells, eJ 392 s_cells), (a_s_notes, eI 288 s_notes)]) (kX8_isRow p1 r_3 hc_4) ggX3_has_X8_isRow nw_X8_isRow mX3_has_3 mX3_has_2 rfl ⟨rfl, rfl⟩ hdX8_isRow ⟨Nat.le_of_ble_eq_true rfl, Nat.le_of_ble_eq_true rfl⟩ ⟨Nat.zero_le _, Nat.zero_le _⟩ [] [0, 1, 2] [0, 1, 2] rfl rfl ⟨rfl, rfl, rfl⟩ (by decide) rfl rfl (Nat.le_of_ble_eq_true rfl) dX3_has_13 ?_
      refine V_if_eq C 23 dX3_has_16 (by decide) (fun c_5 => ?_) (fun c_5 => ?_)
      · have hm := ite_t c_5 hm
        refine V_iconst C (v := (0 : Int32)) dX3_has_23 (by decide) ?_
        cases hm
        exact hR _ _ rfl dX3_has_24
      · have hm := ite_f c_5 hm
        refine V_iconst C (v := (1 : Int32)) dX3_has_19 (by decide) ?_
        refine V_goto C 24 dX3_has_20 (by decide) ?_
        cases hm
        exact hR _ _ rfl dX3_has_24
    · have hm := ite_f c_2 hm
      refine V_iconst C (v := (0 : Int32)) dX3_has_23 (by decide) ?_
      cases hm
      exact hR _ _ rfl dX3_has_24
theorem hdX3_has : yX3_has.cls = RX3 ∧ yX3_has.cls ≠ "java/lang/invoke/MethodHandle" ∧ yX3_has.cls ≠ "java/lang/invoke/VarHandle" ∧ (parseMethodDescriptor yX3_has.desc).map (fun d => d.parameters.length) = some 2 := by decide +kernel
-- RodBoard$Course.cell(II)J
theorem uX3_cell_X3 : ∀ w ∈ wsX30, w ∈ wsX3_cell := fun _ h => List.mem_cons_of_mem _ (List.mem_append_right _ h)
theorem mX3_cell_1 : Cond.fieldLink RX3 11 "RodBoard$Course" "cells" "[J" ∈ wsX3_cell := List.mem_of_getElem? (i := 1) rfl
def fX3_cell (p0 : Int32) (p1 : Int32) (s_cells : Nat → Int64) : Option ((Int64)) := if ((p0 * (8 : Int32)) + p1) < (0 : Int32) then some (0 : Int64) else if ((p0 * (8 : Int32)) + p1) < (392 : Int32) then Option.bind (rdJ s_cells 392 ((p0 * (8 : Int32)) + p1)) (fun v_3 => some v_3) else some (0 : Int64)
set_option maxHeartbeats 4000000 in
set_option maxRecDepth 100000 in
theorem kX3_cell {l : Launch} (h0 : Nat) (a_s_cells : Nat) (a_s_notes : Nat) (s_boards : Int32) (s_cells : Nat → Int64) (s_notes : Nat → Int32) (p0 : Int32) (p1 : Int32) (r : Int64) (hm : fX3_cell p0 p1 s_cells = some r) : CtL l yX3_cell wsX3_cell ({ frames := 0, cells := 0, slots := 0, locals := 0 } : Room) [.ref h0, .int p0, .int p1] [(h0, eO 3 [.ref a_s_cells, .ref a_s_notes, .int s_boards]), (a_s_cells, eJ 392 s_cells), (a_s_notes, eI 288 s_notes)] r [(h0, eO 3 [.ref a_s_cells, .ref a_s_notes, .int s_boards]), (a_s_cells, eJ 392 s_cells), (a_s_notes, eI 288 s_notes)] := by
  refine CtL_of (cc := cX3_cell) (maxL := 4) (own := RX3) rfl (by decide) rfl (lv0 := [(0, .ref h0), (1, .int p0), (2, .int p1)]) rfl (Nat.le_of_ble_eq_true rfl) (fun Γ hL C hR => ?_)
  subst hL
  unfold fX3_cell at hm
  refine V_iload_n C 1 dX3_cell_0 rfl rfl ?_
  refine V_bipush C (v := (8 : Int32)) dX3_cell_1 (by decide) ?_
  refine V_imul C dX3_cell_3 ?_
  refine V_iload_n C 2 dX3_cell_4 rfl rfl ?_
  refine V_iadd C dX3_cell_5 ?_
  refine V_istore_n C (lv' := [(3, .int ((p0 * (8 : Int32)) + p1)), (0, .ref h0), (1, .int p0), (2, .int p1)]) dX3_cell_6 rfl (by decide) rfl ?_
  refine V_iload_n C 0 dX3_cell_7 rfl rfl ?_
  refine V_if_lt C 29 dX3_cell_8 (by decide) (fun c_1 => ?_) (fun c_1 => ?_)
  · have hm := ite_t c_1 hm
    refine V_lconst C (v := (0 : Int64)) dX3_cell_29 (by decide) ?_
    cases hm
    exact hR _ _ dX3_cell_30
  · have hm := ite_f c_1 hm
    refine V_iload_n C 0 dX3_cell_11 rfl rfl ?_
    refine V_aload_n C 1 dX3_cell_12 rfl rfl ?_
    refine V_get C uX3_cell_X3 0 0 rfl rfl (by decide) mX3_cell_1 rfl dX3_cell_13 ?_
    refine V_alen C (v := (392 : Int32)) 1 1 rfl rfl rfl rfl dX3_cell_16 ?_
    refine V_icmp_ge C 29 dX3_cell_17 (by decide) (fun c_2 => ?_) (fun c_2 => ?_)
    · have hm := ite_t c_2 hm
      refine V_aload_n C 1 dX3_cell_20 rfl rfl ?_
      refine V_get C uX3_cell_X3 0 0 rfl rfl (by decide) mX3_cell_1 rfl dX3_cell_21 ?_
      refine V_iload_n C 0 dX3_cell_24 rfl rfl ?_
      obtain ⟨v_3, hv_3, hm⟩ := bnd hm
      refine V_lald C 1 rfl hv_3 dX3_cell_25 ?_
      refine V_goto C 30 dX3_cell_26 (by decide) ?_
      cases hm
      exact hR _ _ dX3_cell_30
    · have hm := ite_f c_2 hm
      refine V_lconst C (v := (0 : Int64)) dX3_cell_29 (by decide) ?_
      cases hm
      exact hR _ _ dX3_cell_30
theorem hdX3_cell : yX3_cell.cls = RX3 ∧ yX3_cell.cls ≠ "java/lang/invoke/MethodHandle" ∧ yX3_cell.cls ≠ "java/lang/invoke/VarHandle" ∧ (parseMethodDescriptor yX3_cell.desc).map (fun d => d.parameters.length) = some 2 := by decide +kernel
-- RodBoard$Course.put(IIJ)V
theorem uX3_put_X3 : ∀ w ∈ wsX30, w ∈ wsX3_put := fun _ h => List.mem_cons_of_mem _ (List.mem_append_right _ h)
theorem mX3_put_1 : Cond.fieldLink RX3 11 "RodBoard$Course" "cells" "[J" ∈ wsX3_put := List.mem_of_getElem? (i := 1) rfl
def fX3_put (p0 : Int32) (p1 : Int32) (p2 : Int64) (s_cells : Nat → Int64) : Option ((Nat → Int64)) := if ((p0 * (8 : Int32)) + p1) < (0 : Int32) then some s_cells else if ((p0 * (8 : Int32)) + p1) < (392 : Int32) then Option.bind (wrJ s_cells 392 ((p0 * (8 : Int32)) + p1) p2) (fun g_3 => some g_3) else some s_cells
set_option maxHeartbeats 4000000 in
set_option maxRecDepth 100000 in
theorem kX3_put {l : Launch} (h0 : Nat) (a_s_cells : Nat) (a_s_notes : Nat) (s_boards : Int32) (s_cells : Nat → Int64) (s_notes : Nat → Int32) (p0 : Int32) (p1 : Int32) (p2 : Int64) (o_s_cells : Nat → Int64) (hm : fX3_put p0 p1 p2 s_cells = some o_s_cells) : CtV l yX3_put wsX3_put ({ frames := 0, cells := 0, slots := 0, locals := 0 } : Room) [.ref h0, .int p0, .int p1, .long p2] [(h0, eO 3 [.ref a_s_cells, .ref a_s_notes, .int s_boards]), (a_s_cells, eJ 392 s_cells), (a_s_notes, eI 288 s_notes)] [(h0, eO 3 [.ref a_s_cells, .ref a_s_notes, .int s_boards]), (a_s_cells, eJ 392 o_s_cells), (a_s_notes, eI 288 s_notes)] := by
  refine CtV_of (cc := cX3_put) (maxL := 6) (own := RX3) rfl (by decide) rfl (lv0 := [(0, .ref h0), (1, .int p0), (2, .int p1), (3, .long p2)]) rfl (Nat.le_of_ble_eq_true rfl) (fun Γ hL C hR => ?_)
  subst hL
  unfold fX3_put at hm
  refine V_iload_n C 1 dX3_put_0 rfl rfl ?_
  refine V_bipush C (v := (8 : Int32)) dX3_put_1 (by decide) ?_
  refine V_imul C dX3_put_3 ?_
  refine V_iload_n C 2 dX3_put_4 rfl rfl ?_
  refine V_iadd C dX3_put_5 ?_
  refine V_istore C (lv' := [(5, .int ((p0 * (8 : Int32)) + p1)), (0, .ref h0), (1, .int p0), (2, .int p1), (3, .long p2)]) dX3_put_6 (by decide) rfl ?_
  refine V_iload C 0 dX3_put_8 rfl ?_
  refine V_if_lt C 31 dX3_put_10 (by decide) (fun c_1 => ?_) (fun c_1 => ?_)
  · have hm := ite_t c_1 hm
    cases hm
    exact hR _ _ dX3_put_31
  · have hm := ite_f c_1 hm
    refine V_iload C 0 dX3_put_13 rfl ?_
    refine V_aload_n C 1 dX3_put_15 rfl rfl ?_
    refine V_get C uX3_put_X3 0 0 rfl rfl (by decide) mX3_put_1 rfl dX3_put_16 ?_
    refine V_alen C (v := (392 : Int32)) 1 1 rfl rfl rfl rfl dX3_put_19 ?_
    refine V_icmp_ge C 31 dX3_put_20 (by decide) (fun c_2 => ?_) (fun c_2 => ?_)
    · have hm := ite_t c_2 hm
      refine V_aload_n C 1 dX3_put_23 rfl rfl ?_
      refine V_get C uX3_put_X3 0 0 rfl rfl (by decide) mX3_put_1 rfl dX3_put_24 ?_
      refine V_iload C 0 dX3_put_27 rfl ?_
      refine V_lload_n C 4 dX3_put_29 rfl rfl ?_
      obtain ⟨g_3, hg_3, hm⟩ := bnd hm
      refine V_last C 1 rfl hg_3 dX3_put_30 (ws' := [(h0, eO 3 [.ref a_s_cells, .ref a_s_notes, .int s_boards]), (a_s_cells, eJ 392 g_3), (a_s_notes, eI 288 s_notes)]) rfl ?_
      cases hm
      exact hR _ _ dX3_put_31
    · have hm := ite_f c_2 hm
      cases hm
      exact hR _ _ dX3_put_31
theorem hdX3_put : yX3_put.cls = RX3 ∧ yX3_put.cls ≠ "java/lang/invoke/MethodHandle" ∧ yX3_put.cls ≠ "java/lang/invoke/VarHandle" ∧ (parseMethodDescriptor yX3_put.desc).map (fun d => d.parameters.length) = some 3 := by decide +kernel
-- RodBoard$Course.noted(II)I
theorem uX3_noted_X3 : ∀ w ∈ wsX30, w ∈ wsX3_noted := fun _ h => List.mem_cons_of_mem _ (List.mem_append_right _ h)
theorem mX3_noted_1 : Cond.fieldLink RX3 15 "RodBoard$Course" "notes" "[I" ∈ wsX3_noted := List.mem_of_getElem? (i := 1) rfl
def fX3_noted (p0 : Int32) (p1 : Int32) (s_notes : Nat → Int32) : Option ((Int32)) := if ((p0 * (6 : Int32)) + p1) < (0 : Int32) then some (0 : Int32) else if ((p0 * (6 : Int32)) + p1) < (288 : Int32) then Option.bind (rdI s_notes 288 ((p0 * (6 : Int32)) + p1)) (fun v_3 => some v_3) else some (0 : Int32)
set_option maxHeartbeats 4000000 in
set_option maxRecDepth 100000 in
theorem kX3_noted {l : Launch} (h0 : Nat) (a_s_cells : Nat) (a_s_notes : Nat) (s_boards : Int32) (s_cells : Nat → Int64) (s_notes : Nat → Int32) (p0 : Int32) (p1 : Int32) (r : Int32) (hm : fX3_noted p0 p1 s_notes = some r) : CtI l yX3_noted wsX3_noted ({ frames := 0, cells := 0, slots := 0, locals := 0 } : Room) [.ref h0, .int p0, .int p1] [(h0, eO 3 [.ref a_s_cells, .ref a_s_notes, .int s_boards]), (a_s_cells, eJ 392 s_cells), (a_s_notes, eI 288 s_notes)] r [(h0, eO 3 [.ref a_s_cells, .ref a_s_notes, .int s_boards]), (a_s_cells, eJ 392 s_cells), (a_s_notes, eI 288 s_notes)] := by
  refine CtI_of (cc := cX3_noted) (maxL := 4) (ty := .int) (own := RX3) rfl (by decide) rfl (lv0 := [(0, .ref h0), (1, .int p0), (2, .int p1)]) rfl (Nat.le_of_ble_eq_true rfl) (fun Γ hL C hR => ?_)
  subst hL
  unfold fX3_noted at hm
  refine V_iload_n C 1 dX3_noted_0 rfl rfl ?_
  refine V_bipush C (v := (6 : Int32)) dX3_noted_1 (by decide) ?_
  refine V_imul C dX3_noted_3 ?_
  refine V_iload_n C 2 dX3_noted_4 rfl rfl ?_
  refine V_iadd C dX3_noted_5 ?_
  refine V_istore_n C (lv' := [(3, .int ((p0 * (6 : Int32)) + p1)), (0, .ref h0), (1, .int p0), (2, .int p1)]) dX3_noted_6 rfl (by decide) rfl ?_
  refine V_iload_n C 0 dX3_noted_7 rfl rfl ?_
  refine V_if_lt C 29 dX3_noted_8 (by decide) (fun c_1 => ?_) (fun c_1 => ?_)
  · have hm := ite_t c_1 hm
    refine V_iconst C (v := (0 : Int32)) dX3_noted_29 (by decide) ?_
    cases hm
    exact hR _ _ rfl dX3_noted_30
  · have hm := ite_f c_1 hm
    refine V_iload_n C 0 dX3_noted_11 rfl rfl ?_
    refine V_aload_n C 1 dX3_noted_12 rfl rfl ?_
    refine V_get C uX3_noted_X3 0 1 rfl rfl (by decide) mX3_noted_1 rfl dX3_noted_13 ?_
    refine V_alen C (v := (288 : Int32)) 2 0 rfl rfl rfl rfl dX3_noted_16 ?_
    refine V_icmp_ge C 29 dX3_noted_17 (by decide) (fun c_2 => ?_) (fun c_2 => ?_)
    · have hm := ite_t c_2 hm
      refine V_aload_n C 1 dX3_noted_20 rfl rfl ?_
      refine V_get C uX3_noted_X3 0 1 rfl rfl (by decide) mX3_noted_1 rfl dX3_noted_21 ?_
      refine V_iload_n C 0 dX3_noted_24 rfl rfl ?_
      obtain ⟨v_3, hv_3, hm⟩ := bnd hm
      refine V_iald C 2 rfl hv_3 dX3_noted_25 ?_
      refine V_goto C 30 dX3_noted_26 (by decide) ?_
      cases hm
      exact hR _ _ rfl dX3_noted_30
    · have hm := ite_f c_2 hm
      refine V_iconst C (v := (0 : Int32)) dX3_noted_29 (by decide) ?_
      cases hm
      exact hR _ _ rfl dX3_noted_30
theorem hdX3_noted : yX3_noted.cls = RX3 ∧ yX3_noted.cls ≠ "java/lang/invoke/MethodHandle" ∧ yX3_noted.cls ≠ "java/lang/invoke/VarHandle" ∧ (parseMethodDescriptor yX3_noted.desc).map (fun d => d.parameters.length) = some 2 := by decide +kernel
-- RodBoard$Course.tell(III)V
theorem uX3_tell_X3 : ∀ w ∈ wsX30, w ∈ wsX3_tell := fun _ h => List.mem_cons_of_mem _ (List.mem_append_right _ h)
theorem mX3_tell_1 : Cond.fieldLink RX3 15 "RodBoard$Course" "notes" "[I" ∈ wsX3_tell := List.mem_of_getElem? (i := 1) rfl
def fX3_tell (p0 : Int32) (p1 : Int32) (p2 : Int32) (s_notes : Nat → Int32) : Option ((Nat → Int32)) := if ((p0 * (6 : Int32)) + p1) < (0 : Int32) then some s_notes else if ((p0 * (6 : Int32)) + p1) < (288 : Int32) then Option.bind (wrI s_notes 288 ((p0 * (6 : Int32)) + p1) p2) (fun g_3 => some g_3) else some s_notes
set_option maxHeartbeats 4000000 in
set_option maxRecDepth 100000 in
theorem kX3_tell {l : Launch} (h0 : Nat) (a_s_cells : Nat) (a_s_notes : Nat) (s_boards : Int32) (s_cells : Nat → Int64) (s_notes : Nat → Int32) (p0 : Int32) (p1 : Int32) (p2 : Int32) (o_s_notes : Nat → Int32) (hm : fX3_tell p0 p1 p2 s_notes = some o_s_notes) : CtV l yX3_tell wsX3_tell ({ frames := 0, cells := 0, slots := 0, locals := 0 } : Room) [.ref h0, .int p0, .int p1, .int p2] [(h0, eO 3 [.ref a_s_cells, .ref a_s_notes, .int s_boards]), (a_s_cells, eJ 392 s_cells), (a_s_notes, eI 288 s_notes)] [(h0, eO 3 [.ref a_s_cells, .ref a_s_notes, .int s_boards]), (a_s_cells, eJ 392 s_cells), (a_s_notes, eI 288 o_s_notes)] := by
  refine CtV_of (cc := cX3_tell) (maxL := 5) (own := RX3) rfl (by decide) rfl (lv0 := [(0, .ref h0), (1, .int p0), (2, .int p1), (3, .int p2)]) rfl (Nat.le_of_ble_eq_true rfl) (fun Γ hL C hR => ?_)
  subst hL
  unfold fX3_tell at hm
  refine V_iload_n C 1 dX3_tell_0 rfl rfl ?_
  refine V_bipush C (v := (6 : Int32)) dX3_tell_1 (by decide) ?_
  refine V_imul C dX3_tell_3 ?_
  refine V_iload_n C 2 dX3_tell_4 rfl rfl ?_
  refine V_iadd C dX3_tell_5 ?_
  refine V_istore C (lv' := [(4, .int ((p0 * (6 : Int32)) + p1)), (0, .ref h0), (1, .int p0), (2, .int p1), (3, .int p2)]) dX3_tell_6 (by decide) rfl ?_
  refine V_iload C 0 dX3_tell_8 rfl ?_
  refine V_if_lt C 31 dX3_tell_10 (by decide) (fun c_1 => ?_) (fun c_1 => ?_)
  · have hm := ite_t c_1 hm
    cases hm
    exact hR _ _ dX3_tell_31
  · have hm := ite_f c_1 hm
    refine V_iload C 0 dX3_tell_13 rfl ?_
    refine V_aload_n C 1 dX3_tell_15 rfl rfl ?_
    refine V_get C uX3_tell_X3 0 1 rfl rfl (by decide) mX3_tell_1 rfl dX3_tell_16 ?_
    refine V_alen C (v := (288 : Int32)) 2 0 rfl rfl rfl rfl dX3_tell_19 ?_
    refine V_icmp_ge C 31 dX3_tell_20 (by decide) (fun c_2 => ?_) (fun c_2 => ?_)
    · have hm := ite_t c_2 hm
      refine V_aload_n C 1 dX3_tell_23 rfl rfl ?_
      refine V_get C uX3_tell_X3 0 1 rfl rfl (by decide) mX3_tell_1 rfl dX3_tell_24 ?_
      refine V_iload C 0 dX3_tell_27 rfl ?_
      refine V_iload_n C 4 dX3_tell_29 rfl rfl ?_
      obtain ⟨g_3, hg_3, hm⟩ := bnd hm
      refine V_iast C 2 rfl hg_3 dX3_tell_30 (ws' := [(h0, eO 3 [.ref a_s_cells, .ref a_s_notes, .int s_boards]), (a_s_cells, eJ 392 s_cells), (a_s_notes, eI 288 g_3)]) rfl ?_
      cases hm
      exact hR _ _ dX3_tell_31
    · have hm := ite_f c_2 hm
      cases hm
      exact hR _ _ dX3_tell_31
theorem hdX3_tell : yX3_tell.cls = RX3 ∧ yX3_tell.cls ≠ "java/lang/invoke/MethodHandle" ∧ yX3_tell.cls ≠ "java/lang/invoke/VarHandle" ∧ (parseMethodDescriptor yX3_tell.desc).map (fun d => d.parameters.length) = some 3 := by decide +kernel
-- RodBoard$Course.forget()V
theorem uX3_forget_X3 : ∀ w ∈ wsX30, w ∈ wsX3_forget := fun _ h => List.mem_cons_of_mem _ (List.mem_append_right _ h)
theorem mX3_forget_1 : Cond.fieldLink RX3 19 "RodBoard$Course" "boards" "I" ∈ wsX3_forget := List.mem_of_getElem? (i := 1) rfl
def fX3_forget (s_boards : Int32) : Option ((Int32)) := some (0 : Int32)
set_option maxHeartbeats 4000000 in
set_option maxRecDepth 100000 in
theorem kX3_forget {l : Launch} (h0 : Nat) (a_s_cells : Nat) (a_s_notes : Nat) (s_boards : Int32) (s_cells : Nat → Int64) (s_notes : Nat → Int32) (o_s_boards : Int32) (hm : fX3_forget s_boards = some o_s_boards) : CtV l yX3_forget wsX3_forget ({ frames := 0, cells := 0, slots := 0, locals := 0 } : Room) [.ref h0] [(h0, eO 3 [.ref a_s_cells, .ref a_s_notes, .int s_boards]), (a_s_cells, eJ 392 s_cells), (a_s_notes, eI 288 s_notes)] [(h0, eO 3 [.ref a_s_cells, .ref a_s_notes, .int o_s_boards]), (a_s_cells, eJ 392 s_cells), (a_s_notes, eI 288 s_notes)] := by
  refine CtV_of (cc := cX3_forget) (maxL := 1) (own := RX3) rfl (by decide) rfl (lv0 := [(0, .ref h0)]) rfl (Nat.le_of_ble_eq_true rfl) (fun Γ hL C hR => ?_)
  subst hL
  unfold fX3_forget at hm
  refine V_aload_n C 0 dX3_forget_0 rfl rfl ?_
  refine V_iconst C (v := (0 : Int32)) dX3_forget_1 (by decide) ?_
  refine V_put C (ty := .int) uX3_forget_X3 tyX3 tyX3_ok nmX3 0 2 rfl rfl (by decide) mX3_forget_1 rfl (by decide +kernel) rfl rfl (Nat.le_of_ble_eq_true rfl) dX3_forget_2 (ws' := [(h0, eO 3 [.ref a_s_cells, .ref a_s_notes, .int (0 : Int32)]), (a_s_cells, eJ 392 s_cells), (a_s_notes, eI 288 s_notes)]) rfl ?_
  cases hm
  exact hR _ _ dX3_forget_5
theorem hdX3_forget : yX3_forget.cls = RX3 ∧ yX3_forget.cls ≠ "java/lang/invoke/MethodHandle" ∧ yX3_forget.cls ≠ "java/lang/invoke/VarHandle" ∧ (parseMethodDescriptor yX3_forget.desc).map (fun d => d.parameters.length) = some 0 := by decide +kernel
-- RodBoard$Course.begin([J)V
theorem uX3_begin_X3 : ∀ w ∈ wsX30, w ∈ wsX3_begin := fun _ h => List.mem_cons_of_mem _ (List.mem_append_right _ h)
theorem mX3_begin_1 : Cond.fieldLink RX3 19 "RodBoard$Course" "boards" "I" ∈ wsX3_begin := List.mem_of_getElem? (i := 1) rfl
def fX3_begin_L7b (p0 : Nat → Int64) (x2 : Int32) (s_cells : Nat → Int64) : Option (((Int32) × (Nat → Int64)) ⊕ ((Nat → Int64))) := if x2 < (8 : Int32) then Option.bind (rdJ p0 8 x2) (fun v_2 => Option.bind (fX3_put (0 : Int32) x2 v_2 s_cells) (fun w_3 => some (Sum.inl (x2 + (1 : Int32), w_3)))) else some (Sum.inr s_cells)
def fX3_begin_L7 (p0 : Nat → Int64) : ((Int32) × (Nat → Int64)) → Option (((Int32) × (Nat → Int64)) ⊕ ((Nat → Int64))) := fun e => fX3_begin_L7b p0 e.1 e.2
set_option maxHeartbeats 4000000 in
set_option maxRecDepth 100000 in
theorem bX3_begin_L7 {Γ : KT} (C : CX Γ cX3_begin 3 wsX3_begin RX3 ({ frames := 1, cells := 0, slots := 0, locals := 25 } : Room)) (h0 : Nat) (a_s_cells : Nat) (a_s_notes : Nat) (a_p0 : Nat) (s_boards : Int32) (s_notes : Nat → Int32) (p0 : Nat → Int64) (x2 : Int32) (s_cells : Nat → Int64) (x : ((Int32) × (Nat → Int64)) ⊕ ((Nat → Int64))) (hm : fX3_begin_L7b p0 x2 s_cells = some x) (hb : (∀ (x2' : Int32) (s_cells' : Nat → Int64), x = Sum.inl (x2', s_cells') → V Γ 3 0 0 7 [(0, .ref h0), (1, .ref a_p0), (2, .int x2')] [] [(h0, eO 3 [.ref a_s_cells, .ref a_s_notes, .int s_boards]), (a_s_cells, eJ 392 s_cells'), (a_s_notes, eI 288 s_notes), (a_p0, eJ 8 p0)])) (he0 : (∀ (s_cells' : Nat → Int64), x = Sum.inr s_cells' → V Γ 3 0 0 28 [] [] [(h0, eO 3 [.ref a_s_cells, .ref a_s_notes, .int s_boards]), (a_s_cells, eJ 392 s_cells'), (a_s_notes, eI 288 s_notes), (a_p0, eJ 8 p0)])) : V Γ 3 0 0 7 [(0, .ref h0), (1, .ref a_p0), (2, .int x2)] [] [(h0, eO 3 [.ref a_s_cells, .ref a_s_notes, .int s_boards]), (a_s_cells, eJ 392 s_cells), (a_s_notes, eI 288 s_notes), (a_p0, eJ 8 p0)] := by
  unfold fX3_begin_L7b at hm
  refine V_iload_n C 2 dX3_begin_7 rfl rfl ?_
  refine V_aload_n C 1 dX3_begin_8 rfl rfl ?_
  refine V_alen C (v := (8 : Int32)) 3 1 rfl rfl rfl rfl dX3_begin_9 ?_
  refine V_icmp_ge C 28 dX3_begin_10 (by decide) (fun c_1 => ?_) (fun c_1 => ?_)
  · have hm := ite_t c_1 hm
    refine V_aload_n C 0 dX3_begin_13 rfl rfl ?_
    refine V_iconst C (v := (0 : Int32)) dX3_begin_14 (by decide) ?_
    refine V_iload_n C 2 dX3_begin_15 rfl rfl ?_
    refine V_aload_n C 1 dX3_begin_16 rfl rfl ?_
    refine V_iload_n C 2 dX3_begin_17 rfl rfl ?_
    obtain ⟨v_2, hv_2, hm⟩ := bnd hm
    refine V_lald C 3 rfl hv_2 dX3_begin_18 ?_
    obtain ⟨w_3, hc_4, hm⟩ := bnd hm
    refine V_callVV C (As := [.int (0 : Int32), .int x2, .long v_2]) (wr := [(a_p0, eJ 8 p0)]) (ws2 := [(h0, eO 3 [.ref a_s_cells, .ref a_s_notes, .int s_boards]), (a_s_cells, eJ 392 w_3), (a_s_notes, eI 288 s_notes), (a_p0, eJ 8 p0)]) (kX3_put h0 a_s_cells a_s_notes s_boards s_cells s_notes (0 : Int32) x2 v_2 w_3 hc_4) gX3_begin_X3_put rfl ⟨rfl, rfl⟩ hdX3_put ⟨Nat.le_of_ble_eq_true rfl, Nat.le_of_ble_eq_true rfl⟩ ⟨Nat.zero_le _, Nat.zero_le _⟩ 0 rfl rfl [0, 1, 2] [3] [1, 2, 3, 0] rfl rfl ⟨rfl, rfl, rfl⟩ (by decide) rfl rfl (Nat.le_of_ble_eq_true rfl) dX3_begin_19 ?_
    refine V_iinc C 2 (v := x2 + (1 : Int32)) (lv' := [(2, .int (x2 + (1 : Int32))), (0, .ref h0), (1, .ref a_p0)]) dX3_begin_22 rfl rfl (by decide) rfl ?_
    refine V_goto C 7 dX3_begin_25 (by decide) ?_
    refine V_lv [1, 2, 0] rfl ?_
    exact hb (x2 + (1 : Int32)) w_3 (Option.some.inj hm).symm
  · have hm := ite_f c_1 hm
    refine V_lv [] rfl ?_
    exact he0 s_cells (Option.some.inj hm).symm
theorem lX3_begin_L7 {Γ : KT} (C : CX Γ cX3_begin 3 wsX3_begin RX3 ({ frames := 1, cells := 0, slots := 0, locals := 25 } : Room)) (h0 : Nat) (a_s_cells : Nat) (a_s_notes : Nat) (a_p0 : Nat) (s_boards : Int32) (s_notes : Nat → Int32) (p0 : Nat → Int64) (x2 : Int32) (s_cells : Nat → Int64) (N : Nat) (e : (Nat → Int64)) (hN : itr (fX3_begin_L7 p0) N (x2, s_cells) = some e) (he0 : (∀ (s_cells' : Nat → Int64), e = s_cells' → V Γ 3 0 0 28 [] [] [(h0, eO 3 [.ref a_s_cells, .ref a_s_notes, .int s_boards]), (a_s_cells, eJ 392 s_cells'), (a_s_notes, eI 288 s_notes), (a_p0, eJ 8 p0)])) : V Γ 3 0 0 7 [(0, .ref h0), (1, .ref a_p0), (2, .int x2)] [] [(h0, eO 3 [.ref a_s_cells, .ref a_s_notes, .int s_boards]), (a_s_cells, eJ 392 s_cells), (a_s_notes, eI 288 s_notes), (a_p0, eJ 8 p0)] := by
  induction N generalizing x2 s_cells with
  | zero => exact absurd hN (fun h => itr_0 h)
  | succ N ih =>
    obtain ⟨x, hx, hN⟩ := itr_s hN
    refine bX3_begin_L7 C h0 a_s_cells a_s_notes a_p0 s_boards s_notes p0 x2 s_cells x hx (fun x2' s_cells' h => ih x2' s_cells' (by subst h; exact hN)) (fun y0 h => he0 y0 (by subst h; exact (Option.some.inj hN).symm))
def fX3_begin (s_boards : Int32) (s_cells : Nat → Int64) (p0 : Nat → Int64) : Option ((Int32) × (Nat → Int64)) := Option.bind (itr (fX3_begin_L7 p0) KF ((0 : Int32), s_cells)) (fun u_7 => some ((1 : Int32), u_7))
set_option maxHeartbeats 4000000 in
set_option maxRecDepth 100000 in
theorem kX3_begin {l : Launch} (h0 : Nat) (a_s_cells : Nat) (a_s_notes : Nat) (a_p0 : Nat) (s_boards : Int32) (s_cells : Nat → Int64) (s_notes : Nat → Int32) (p0 : Nat → Int64) (o_s_boards : Int32) (o_s_cells : Nat → Int64) (hm : fX3_begin s_boards s_cells p0 = some (o_s_boards, o_s_cells)) : CtV l yX3_begin wsX3_begin ({ frames := 1, cells := 0, slots := 0, locals := 25 } : Room) [.ref h0, .ref a_p0] [(h0, eO 3 [.ref a_s_cells, .ref a_s_notes, .int s_boards]), (a_s_cells, eJ 392 s_cells), (a_s_notes, eI 288 s_notes), (a_p0, eJ 8 p0)] [(h0, eO 3 [.ref a_s_cells, .ref a_s_notes, .int o_s_boards]), (a_s_cells, eJ 392 o_s_cells), (a_s_notes, eI 288 s_notes), (a_p0, eJ 8 p0)] := by
  refine CtV_of (cc := cX3_begin) (maxL := 3) (own := RX3) rfl (by decide) rfl (lv0 := [(0, .ref h0), (1, .ref a_p0)]) rfl (Nat.le_of_ble_eq_true rfl) (fun Γ hL C hR => ?_)
  subst hL
  unfold fX3_begin at hm
  refine V_aload_n C 0 dX3_begin_0 rfl rfl ?_
  refine V_iconst C (v := (1 : Int32)) dX3_begin_1 (by decide) ?_
  refine V_put C (ty := .int) uX3_begin_X3 tyX3 tyX3_ok nmX3 0 2 rfl rfl (by decide) mX3_begin_1 rfl (by decide +kernel) rfl rfl (Nat.le_of_ble_eq_true rfl) dX3_begin_2 (ws' := [(h0, eO 3 [.ref a_s_cells, .ref a_s_notes, .int (1 : Int32)]), (a_s_cells, eJ 392 s_cells), (a_s_notes, eI 288 s_notes), (a_p0, eJ 8 p0)]) rfl ?_
  refine V_iconst C (v := (0 : Int32)) dX3_begin_5 (by decide) ?_
  refine V_istore_n C (lv' := [(2, .int (0 : Int32)), (0, .ref h0), (1, .ref a_p0)]) dX3_begin_6 rfl (by decide) rfl ?_
  obtain ⟨u_7, hE_6, hm⟩ := bnd hm
  refine V_lv [1, 2, 0] rfl ?_
  refine lX3_begin_L7 C h0 a_s_cells a_s_notes a_p0 (1 : Int32) s_notes p0 (0 : Int32) s_cells KF _ hE_6 ?_
  intro q_8 hq
  cases hq
  cases hm
  exact hR _ _ dX3_begin_28
theorem hdX3_begin : yX3_begin.cls = RX3 ∧ yX3_begin.cls ≠ "java/lang/invoke/MethodHandle" ∧ yX3_begin.cls ≠ "java/lang/invoke/VarHandle" ∧ (parseMethodDescriptor yX3_begin.desc).map (fun d => d.parameters.length) = some 1 := by decide +kernel
-- RodBoard$Course.takeFrom(LRodBoard$Course;)V
theorem uX3_takeFrom_X3 : ∀ w ∈ wsX30, w ∈ wsX3_takeFrom := fun _ h => List.mem_cons_of_mem _ (List.mem_append_right _ h)
theorem mX3_takeFrom_1 : Cond.fieldLink RX3 19 "RodBoard$Course" "boards" "I" ∈ wsX3_takeFrom := List.mem_of_getElem? (i := 1) rfl
theorem mX3_takeFrom_2 : Cond.fieldLink RX3 11 "RodBoard$Course" "cells" "[J" ∈ wsX3_takeFrom := List.mem_of_getElem? (i := 2) rfl
theorem mX3_takeFrom_3 : Cond.fieldLink RX3 15 "RodBoard$Course" "notes" "[I" ∈ wsX3_takeFrom := List.mem_of_getElem? (i := 3) rfl
def fX3_takeFrom_L10b (p0_cells : Nat → Int64) (x2 : Int32) (s_cells : Nat → Int64) : Option (((Int32) × (Nat → Int64)) ⊕ ((Nat → Int64))) := if x2 < (392 : Int32) then if x2 < (392 : Int32) then Option.bind (rdJ p0_cells 392 x2) (fun v_3 => Option.bind (wrJ s_cells 392 x2 v_3) (fun g_4 => some (Sum.inl (x2 + (1 : Int32), g_4)))) else some (Sum.inr s_cells) else some (Sum.inr s_cells)
def fX3_takeFrom_L10 (p0_cells : Nat → Int64) : ((Int32) × (Nat → Int64)) → Option (((Int32) × (Nat → Int64)) ⊕ ((Nat → Int64))) := fun e => fX3_takeFrom_L10b p0_cells e.1 e.2
set_option maxHeartbeats 4000000 in
set_option maxRecDepth 100000 in
theorem bX3_takeFrom_L10 {Γ : KT} (C : CX Γ cX3_takeFrom 3 wsX3_takeFrom RX3 ({ frames := 0, cells := 0, slots := 0, locals := 0 } : Room)) (h0 : Nat) (a_s_cells : Nat) (a_s_notes : Nat) (a_p0 : Nat) (a_p0_cells : Nat) (a_p0_notes : Nat) (s_boards : Int32) (s_notes : Nat → Int32) (p0_boards : Int32) (p0_cells : Nat → Int64) (p0_notes : Nat → Int32) (x2 : Int32) (s_cells : Nat → Int64) (x : ((Int32) × (Nat → Int64)) ⊕ ((Nat → Int64))) (hm : fX3_takeFrom_L10b p0_cells x2 s_cells = some x) (hb : (∀ (x2' : Int32) (s_cells' : Nat → Int64), x = Sum.inl (x2', s_cells') → V Γ 3 0 0 10 [(0, .ref h0), (1, .ref a_p0), (2, .int x2')] [] [(h0, eO 3 [.ref a_s_cells, .ref a_s_notes, .int s_boards]), (a_s_cells, eJ 392 s_cells'), (a_s_notes, eI 288 s_notes), (a_p0, eO 3 [.ref a_p0_cells, .ref a_p0_notes, .int p0_boards]), (a_p0_cells, eJ 392 p0_cells), (a_p0_notes, eI 288 p0_notes)])) (he0 : (∀ (s_cells' : Nat → Int64), x = Sum.inr s_cells' → V Γ 3 0 0 46 [(0, .ref h0), (1, .ref a_p0)] [] [(h0, eO 3 [.ref a_s_cells, .ref a_s_notes, .int s_boards]), (a_s_cells, eJ 392 s_cells'), (a_s_notes, eI 288 s_notes), (a_p0, eO 3 [.ref a_p0_cells, .ref a_p0_notes, .int p0_boards]), (a_p0_cells, eJ 392 p0_cells), (a_p0_notes, eI 288 p0_notes)])) : V Γ 3 0 0 10 [(0, .ref h0), (1, .ref a_p0), (2, .int x2)] [] [(h0, eO 3 [.ref a_s_cells, .ref a_s_notes, .int s_boards]), (a_s_cells, eJ 392 s_cells), (a_s_notes, eI 288 s_notes), (a_p0, eO 3 [.ref a_p0_cells, .ref a_p0_notes, .int p0_boards]), (a_p0_cells, eJ 392 p0_cells), (a_p0_notes, eI 288 p0_notes)] := by
  unfold fX3_takeFrom_L10b at hm
  refine V_iload_n C 2 dX3_takeFrom_10 rfl rfl ?_
  refine V_aload_n C 0 dX3_takeFrom_11 rfl rfl ?_
  refine V_get C uX3_takeFrom_X3 0 0 rfl rfl (by decide) mX3_takeFrom_2 rfl dX3_takeFrom_12 ?_
  refine V_alen C (v := (392 : Int32)) 1 1 rfl rfl rfl rfl dX3_takeFrom_15 ?_
  refine V_icmp_ge C 46 dX3_takeFrom_16 (by decide) (fun c_1 => ?_) (fun c_1 => ?_)
  · have hm := ite_t c_1 hm
    refine V_iload_n C 2 dX3_takeFrom_19 rfl rfl ?_
    refine V_aload_n C 1 dX3_takeFrom_20 rfl rfl ?_
    refine V_get C uX3_takeFrom_X3 3 0 rfl rfl (by decide) mX3_takeFrom_2 rfl dX3_takeFrom_21 ?_
    refine V_alen C (v := (392 : Int32)) 4 1 rfl rfl rfl rfl dX3_takeFrom_24 ?_
    refine V_icmp_ge C 46 dX3_takeFrom_25 (by decide) (fun c_2 => ?_) (fun c_2 => ?_)
    · have hm := ite_t c_2 hm
      refine V_aload_n C 0 dX3_takeFrom_28 rfl rfl ?_
      refine V_get C uX3_takeFrom_X3 0 0 rfl rfl (by decide) mX3_takeFrom_2 rfl dX3_takeFrom_29 ?_
      refine V_iload_n C 2 dX3_takeFrom_32 rfl rfl ?_
      refine V_aload_n C 1 dX3_takeFrom_33 rfl rfl ?_
      refine V_get C uX3_takeFrom_X3 3 0 rfl rfl (by decide) mX3_takeFrom_2 rfl dX3_takeFrom_34 ?_
      refine V_iload_n C 2 dX3_takeFrom_37 rfl rfl ?_
      obtain ⟨v_3, hv_3, hm⟩ := bnd hm
      refine V_lald C 4 rfl hv_3 dX3_takeFrom_38 ?_
      obtain ⟨g_4, hg_4, hm⟩ := bnd hm
      refine V_last C 1 rfl hg_4 dX3_takeFrom_39 (ws' := [(h0, eO 3 [.ref a_s_cells, .ref a_s_notes, .int s_boards]), (a_s_cells, eJ 392 g_4), (a_s_notes, eI 288 s_notes), (a_p0, eO 3 [.ref a_p0_cells, .ref a_p0_notes, .int p0_boards]), (a_p0_cells, eJ 392 p0_cells), (a_p0_notes, eI 288 p0_notes)]) rfl ?_
      refine V_iinc C 2 (v := x2 + (1 : Int32)) (lv' := [(2, .int (x2 + (1 : Int32))), (0, .ref h0), (1, .ref a_p0)]) dX3_takeFrom_40 rfl rfl (by decide) rfl ?_
      refine V_goto C 10 dX3_takeFrom_43 (by decide) ?_
      refine V_lv [1, 2, 0] rfl ?_
      exact hb (x2 + (1 : Int32)) g_4 (Option.some.inj hm).symm
    · have hm := ite_f c_2 hm
      refine V_lv [0, 1] rfl ?_
      exact he0 s_cells (Option.some.inj hm).symm
  · have hm := ite_f c_1 hm
    refine V_lv [0, 1] rfl ?_
    exact he0 s_cells (Option.some.inj hm).symm
theorem lX3_takeFrom_L10 {Γ : KT} (C : CX Γ cX3_takeFrom 3 wsX3_takeFrom RX3 ({ frames := 0, cells := 0, slots := 0, locals := 0 } : Room)) (h0 : Nat) (a_s_cells : Nat) (a_s_notes : Nat) (a_p0 : Nat) (a_p0_cells : Nat) (a_p0_notes : Nat) (s_boards : Int32) (s_notes : Nat → Int32) (p0_boards : Int32) (p0_cells : Nat → Int64) (p0_notes : Nat → Int32) (x2 : Int32) (s_cells : Nat → Int64) (N : Nat) (e : (Nat → Int64)) (hN : itr (fX3_takeFrom_L10 p0_cells) N (x2, s_cells) = some e) (he0 : (∀ (s_cells' : Nat → Int64), e = s_cells' → V Γ 3 0 0 46 [(0, .ref h0), (1, .ref a_p0)] [] [(h0, eO 3 [.ref a_s_cells, .ref a_s_notes, .int s_boards]), (a_s_cells, eJ 392 s_cells'), (a_s_notes, eI 288 s_notes), (a_p0, eO 3 [.ref a_p0_cells, .ref a_p0_notes, .int p0_boards]), (a_p0_cells, eJ 392 p0_cells), (a_p0_notes, eI 288 p0_notes)])) : V Γ 3 0 0 10 [(0, .ref h0), (1, .ref a_p0), (2, .int x2)] [] [(h0, eO 3 [.ref a_s_cells, .ref a_s_notes, .int s_boards]), (a_s_cells, eJ 392 s_cells), (a_s_notes, eI 288 s_notes), (a_p0, eO 3 [.ref a_p0_cells, .ref a_p0_notes, .int p0_boards]), (a_p0_cells, eJ 392 p0_cells), (a_p0_notes, eI 288 p0_notes)] := by
  induction N generalizing x2 s_cells with
  | zero => exact absurd hN (fun h => itr_0 h)
  | succ N ih =>
    obtain ⟨x, hx, hN⟩ := itr_s hN
    refine bX3_takeFrom_L10 C h0 a_s_cells a_s_notes a_p0 a_p0_cells a_p0_notes s_boards s_notes p0_boards p0_cells p0_notes x2 s_cells x hx (fun x2' s_cells' h => ih x2' s_cells' (by subst h; exact hN)) (fun y0 h => he0 y0 (by subst h; exact (Option.some.inj hN).symm))
def fX3_takeFrom_L48b (p0_notes : Nat → Int32) (x2 : Int32) (s_notes : Nat → Int32) : Option (((Int32) × (Nat → Int32)) ⊕ ((Nat → Int32))) := if x2 < (288 : Int32) then if x2 < (288 : Int32) then Option.bind (rdI p0_notes 288 x2) (fun v_10 => Option.bind (wrI s_notes 288 x2 v_10) (fun g_11 => some (Sum.inl (x2 + (1 : Int32), g_11)))) else some (Sum.inr s_notes) else some (Sum.inr s_notes)
def fX3_takeFrom_L48 (p0_notes : Nat → Int32) : ((Int32) × (Nat → Int32)) → Option (((Int32) × (Nat → Int32)) ⊕ ((Nat → Int32))) := fun e => fX3_takeFrom_L48b p0_notes e.1 e.2
set_option maxHeartbeats 4000000 in
set_option maxRecDepth 100000 in
theorem bX3_takeFrom_L48 {Γ : KT} (C : CX Γ cX3_takeFrom 3 wsX3_takeFrom RX3 ({ frames := 0, cells := 0, slots := 0, locals := 0 } : Room)) (h0 : Nat) (a_s_cells : Nat) (a_s_notes : Nat) (a_p0 : Nat) (a_p0_cells : Nat) (a_p0_notes : Nat) (s_boards : Int32) (s_cells : Nat → Int64) (p0_boards : Int32) (p0_cells : Nat → Int64) (p0_notes : Nat → Int32) (x2 : Int32) (s_notes : Nat → Int32) (x : ((Int32) × (Nat → Int32)) ⊕ ((Nat → Int32))) (hm : fX3_takeFrom_L48b p0_notes x2 s_notes = some x) (hb : (∀ (x2' : Int32) (s_notes' : Nat → Int32), x = Sum.inl (x2', s_notes') → V Γ 3 0 0 48 [(0, .ref h0), (1, .ref a_p0), (2, .int x2')] [] [(h0, eO 3 [.ref a_s_cells, .ref a_s_notes, .int s_boards]), (a_s_cells, eJ 392 s_cells), (a_s_notes, eI 288 s_notes'), (a_p0, eO 3 [.ref a_p0_cells, .ref a_p0_notes, .int p0_boards]), (a_p0_cells, eJ 392 p0_cells), (a_p0_notes, eI 288 p0_notes)])) (he0 : (∀ (s_notes' : Nat → Int32), x = Sum.inr s_notes' → V Γ 3 0 0 84 [] [] [(h0, eO 3 [.ref a_s_cells, .ref a_s_notes, .int s_boards]), (a_s_cells, eJ 392 s_cells), (a_s_notes, eI 288 s_notes'), (a_p0, eO 3 [.ref a_p0_cells, .ref a_p0_notes, .int p0_boards]), (a_p0_cells, eJ 392 p0_cells), (a_p0_notes, eI 288 p0_notes)])) : V Γ 3 0 0 48 [(0, .ref h0), (1, .ref a_p0), (2, .int x2)] [] [(h0, eO 3 [.ref a_s_cells, .ref a_s_notes, .int s_boards]), (a_s_cells, eJ 392 s_cells), (a_s_notes, eI 288 s_notes), (a_p0, eO 3 [.ref a_p0_cells, .ref a_p0_notes, .int p0_boards]), (a_p0_cells, eJ 392 p0_cells), (a_p0_notes, eI 288 p0_notes)] := by
  unfold fX3_takeFrom_L48b at hm
  refine V_iload_n C 2 dX3_takeFrom_48 rfl rfl ?_
  refine V_aload_n C 0 dX3_takeFrom_49 rfl rfl ?_
  refine V_get C uX3_takeFrom_X3 0 1 rfl rfl (by decide) mX3_takeFrom_3 rfl dX3_takeFrom_50 ?_
  refine V_alen C (v := (288 : Int32)) 2 0 rfl rfl rfl rfl dX3_takeFrom_53 ?_
  refine V_icmp_ge C 84 dX3_takeFrom_54 (by decide) (fun c_8 => ?_) (fun c_8 => ?_)
  · have hm := ite_t c_8 hm
    refine V_iload_n C 2 dX3_takeFrom_57 rfl rfl ?_
    refine V_aload_n C 1 dX3_takeFrom_58 rfl rfl ?_
    refine V_get C uX3_takeFrom_X3 3 1 rfl rfl (by decide) mX3_takeFrom_3 rfl dX3_takeFrom_59 ?_
    refine V_alen C (v := (288 : Int32)) 5 0 rfl rfl rfl rfl dX3_takeFrom_62 ?_
    refine V_icmp_ge C 84 dX3_takeFrom_63 (by decide) (fun c_9 => ?_) (fun c_9 => ?_)
    · have hm := ite_t c_9 hm
      refine V_aload_n C 0 dX3_takeFrom_66 rfl rfl ?_
      refine V_get C uX3_takeFrom_X3 0 1 rfl rfl (by decide) mX3_takeFrom_3 rfl dX3_takeFrom_67 ?_
      refine V_iload_n C 2 dX3_takeFrom_70 rfl rfl ?_
      refine V_aload_n C 1 dX3_takeFrom_71 rfl rfl ?_
      refine V_get C uX3_takeFrom_X3 3 1 rfl rfl (by decide) mX3_takeFrom_3 rfl dX3_takeFrom_72 ?_
      refine V_iload_n C 2 dX3_takeFrom_75 rfl rfl ?_
      obtain ⟨v_10, hv_10, hm⟩ := bnd hm
      refine V_iald C 5 rfl hv_10 dX3_takeFrom_76 ?_
      obtain ⟨g_11, hg_11, hm⟩ := bnd hm
      refine V_iast C 2 rfl hg_11 dX3_takeFrom_77 (ws' := [(h0, eO 3 [.ref a_s_cells, .ref a_s_notes, .int s_boards]), (a_s_cells, eJ 392 s_cells), (a_s_notes, eI 288 g_11), (a_p0, eO 3 [.ref a_p0_cells, .ref a_p0_notes, .int p0_boards]), (a_p0_cells, eJ 392 p0_cells), (a_p0_notes, eI 288 p0_notes)]) rfl ?_
      refine V_iinc C 2 (v := x2 + (1 : Int32)) (lv' := [(2, .int (x2 + (1 : Int32))), (0, .ref h0), (1, .ref a_p0)]) dX3_takeFrom_78 rfl rfl (by decide) rfl ?_
      refine V_goto C 48 dX3_takeFrom_81 (by decide) ?_
      refine V_lv [1, 2, 0] rfl ?_
      exact hb (x2 + (1 : Int32)) g_11 (Option.some.inj hm).symm
    · have hm := ite_f c_9 hm
      refine V_lv [] rfl ?_
      exact he0 s_notes (Option.some.inj hm).symm
  · have hm := ite_f c_8 hm
    refine V_lv [] rfl ?_
    exact he0 s_notes (Option.some.inj hm).symm
theorem lX3_takeFrom_L48 {Γ : KT} (C : CX Γ cX3_takeFrom 3 wsX3_takeFrom RX3 ({ frames := 0, cells := 0, slots := 0, locals := 0 } : Room)) (h0 : Nat) (a_s_cells : Nat) (a_s_notes : Nat) (a_p0 : Nat) (a_p0_cells : Nat) (a_p0_notes : Nat) (s_boards : Int32) (s_cells : Nat → Int64) (p0_boards : Int32) (p0_cells : Nat → Int64) (p0_notes : Nat → Int32) (x2 : Int32) (s_notes : Nat → Int32) (N : Nat) (e : (Nat → Int32)) (hN : itr (fX3_takeFrom_L48 p0_notes) N (x2, s_notes) = some e) (he0 : (∀ (s_notes' : Nat → Int32), e = s_notes' → V Γ 3 0 0 84 [] [] [(h0, eO 3 [.ref a_s_cells, .ref a_s_notes, .int s_boards]), (a_s_cells, eJ 392 s_cells), (a_s_notes, eI 288 s_notes'), (a_p0, eO 3 [.ref a_p0_cells, .ref a_p0_notes, .int p0_boards]), (a_p0_cells, eJ 392 p0_cells), (a_p0_notes, eI 288 p0_notes)])) : V Γ 3 0 0 48 [(0, .ref h0), (1, .ref a_p0), (2, .int x2)] [] [(h0, eO 3 [.ref a_s_cells, .ref a_s_notes, .int s_boards]), (a_s_cells, eJ 392 s_cells), (a_s_notes, eI 288 s_notes), (a_p0, eO 3 [.ref a_p0_cells, .ref a_p0_notes, .int p0_boards]), (a_p0_cells, eJ 392 p0_cells), (a_p0_notes, eI 288 p0_notes)] := by
  induction N generalizing x2 s_notes with
  | zero => exact absurd hN (fun h => itr_0 h)
  | succ N ih =>
    obtain ⟨x, hx, hN⟩ := itr_s hN
    refine bX3_takeFrom_L48 C h0 a_s_cells a_s_notes a_p0 a_p0_cells a_p0_notes s_boards s_cells p0_boards p0_cells p0_notes x2 s_notes x hx (fun x2' s_notes' h => ih x2' s_notes' (by subst h; exact hN)) (fun y0 h => he0 y0 (by subst h; exact (Option.some.inj hN).symm))
def fX3_takeFrom_B46 (s_boards : Int32) (s_cells : Nat → Int64) (s_notes : Nat → Int32) (p0_notes : Nat → Int32) : Option ((Int32) × (Nat → Int64) × (Nat → Int32)) := Option.bind (itr (fX3_takeFrom_L48 p0_notes) KF ((0 : Int32), s_notes)) (fun u_14 => some (s_boards, s_cells, u_14))
set_option maxHeartbeats 4000000 in
set_option maxRecDepth 100000 in
theorem jX3_takeFrom_B46 {Γ : KT} (C : CX Γ cX3_takeFrom 3 wsX3_takeFrom RX3 ({ frames := 0, cells := 0, slots := 0, locals := 0 } : Room)) (h0 : Nat) (a_s_cells : Nat) (a_s_notes : Nat) (a_p0 : Nat) (a_p0_cells : Nat) (a_p0_notes : Nat) (s_boards : Int32) (s_cells : Nat → Int64) (s_notes : Nat → Int32) (p0_boards : Int32) (p0_cells : Nat → Int64) (p0_notes : Nat → Int32) (o_s_boards : Int32) (o_s_cells : Nat → Int64) (o_s_notes : Nat → Int32) (hm : fX3_takeFrom_B46 s_boards s_cells s_notes p0_notes = some (o_s_boards, o_s_cells, o_s_notes)) (hR : (∀ (pc : Nat) (lv : List (Nat × Value)), decode cX3_takeFrom pc = .ok (.return_, 1) → V Γ 3 0 0 pc lv [] [(h0, eO 3 [.ref a_s_cells, .ref a_s_notes, .int o_s_boards]), (a_s_cells, eJ 392 o_s_cells), (a_s_notes, eI 288 o_s_notes), (a_p0, eO 3 [.ref a_p0_cells, .ref a_p0_notes, .int p0_boards]), (a_p0_cells, eJ 392 p0_cells), (a_p0_notes, eI 288 p0_notes)])) : V Γ 3 0 0 46 [(0, .ref h0), (1, .ref a_p0)] [] [(h0, eO 3 [.ref a_s_cells, .ref a_s_notes, .int s_boards]), (a_s_cells, eJ 392 s_cells), (a_s_notes, eI 288 s_notes), (a_p0, eO 3 [.ref a_p0_cells, .ref a_p0_notes, .int p0_boards]), (a_p0_cells, eJ 392 p0_cells), (a_p0_notes, eI 288 p0_notes)] := by
  unfold fX3_takeFrom_B46 at hm
  refine V_iconst C (v := (0 : Int32)) dX3_takeFrom_46 (by decide) ?_
  refine V_istore_n C (lv' := [(2, .int (0 : Int32)), (0, .ref h0), (1, .ref a_p0)]) dX3_takeFrom_47 rfl (by decide) rfl ?_
  obtain ⟨u_14, hE_13, hm⟩ := bnd hm
  refine V_lv [1, 2, 0] rfl ?_
  refine lX3_takeFrom_L48 C h0 a_s_cells a_s_notes a_p0 a_p0_cells a_p0_notes s_boards s_cells p0_boards p0_cells p0_notes (0 : Int32) s_notes KF _ hE_13 ?_
  intro q_15 hq
  cases hq
  cases hm
  exact hR _ _ dX3_takeFrom_84
def fX3_takeFrom (s_boards : Int32) (s_cells : Nat → Int64) (s_notes : Nat → Int32) (p0_boards : Int32) (p0_cells : Nat → Int64) (p0_notes : Nat → Int32) : Option ((Int32) × (Nat → Int64) × (Nat → Int32)) := Option.bind (itr (fX3_takeFrom_L10 p0_cells) KF ((0 : Int32), s_cells)) (fun u_7 => fX3_takeFrom_B46 p0_boards u_7 s_notes p0_notes)
set_option maxHeartbeats 4000000 in
set_option maxRecDepth 100000 in
theorem kX3_takeFrom {l : Launch} (h0 : Nat) (a_s_cells : Nat) (a_s_notes : Nat) (a_p0 : Nat) (a_p0_cells : Nat) (a_p0_notes : Nat) (s_boards : Int32) (s_cells : Nat → Int64) (s_notes : Nat → Int32) (p0_boards : Int32) (p0_cells : Nat → Int64) (p0_notes : Nat → Int32) (o_s_boards : Int32) (o_s_cells : Nat → Int64) (o_s_notes : Nat → Int32) (hm : fX3_takeFrom s_boards s_cells s_notes p0_boards p0_cells p0_notes = some (o_s_boards, o_s_cells, o_s_notes)) : CtV l yX3_takeFrom wsX3_takeFrom ({ frames := 0, cells := 0, slots := 0, locals := 0 } : Room) [.ref h0, .ref a_p0] [(h0, eO 3 [.ref a_s_cells, .ref a_s_notes, .int s_boards]), (a_s_cells, eJ 392 s_cells), (a_s_notes, eI 288 s_notes), (a_p0, eO 3 [.ref a_p0_cells, .ref a_p0_notes, .int p0_boards]), (a_p0_cells, eJ 392 p0_cells), (a_p0_notes, eI 288 p0_notes)] [(h0, eO 3 [.ref a_s_cells, .ref a_s_notes, .int o_s_boards]), (a_s_cells, eJ 392 o_s_cells), (a_s_notes, eI 288 o_s_notes), (a_p0, eO 3 [.ref a_p0_cells, .ref a_p0_notes, .int p0_boards]), (a_p0_cells, eJ 392 p0_cells), (a_p0_notes, eI 288 p0_notes)] := by
  refine CtV_of (cc := cX3_takeFrom) (maxL := 3) (own := RX3) rfl (by decide) rfl (lv0 := [(0, .ref h0), (1, .ref a_p0)]) rfl (Nat.le_of_ble_eq_true rfl) (fun Γ hL C hR => ?_)
  subst hL
  unfold fX3_takeFrom at hm
  refine V_aload_n C 0 dX3_takeFrom_0 rfl rfl ?_
  refine V_aload_n C 1 dX3_takeFrom_1 rfl rfl ?_
  refine V_get C uX3_takeFrom_X3 3 2 rfl rfl (by decide) mX3_takeFrom_1 rfl dX3_takeFrom_2 ?_
  refine V_put C (ty := .int) uX3_takeFrom_X3 tyX3 tyX3_ok nmX3 0 2 rfl rfl (by decide) mX3_takeFrom_1 rfl (by decide +kernel) rfl rfl (Nat.le_of_ble_eq_true rfl) dX3_takeFrom_5 (ws' := [(h0, eO 3 [.ref a_s_cells, .ref a_s_notes, .int p0_boards]), (a_s_cells, eJ 392 s_cells), (a_s_notes, eI 288 s_notes), (a_p0, eO 3 [.ref a_p0_cells, .ref a_p0_notes, .int p0_boards]), (a_p0_cells, eJ 392 p0_cells), (a_p0_notes, eI 288 p0_notes)]) rfl ?_
  refine V_iconst C (v := (0 : Int32)) dX3_takeFrom_8 (by decide) ?_
  refine V_istore_n C (lv' := [(2, .int (0 : Int32)), (0, .ref h0), (1, .ref a_p0)]) dX3_takeFrom_9 rfl (by decide) rfl ?_
  obtain ⟨u_7, hE_6, hm⟩ := bnd hm
  refine V_lv [1, 2, 0] rfl ?_
  refine lX3_takeFrom_L10 C h0 a_s_cells a_s_notes a_p0 a_p0_cells a_p0_notes p0_boards s_notes p0_boards p0_cells p0_notes (0 : Int32) s_cells KF _ hE_6 ?_
  intro q_16 hq
  cases hq
  refine V_lv [0, 1] rfl ?_
  exact jX3_takeFrom_B46 C h0 a_s_cells a_s_notes a_p0 a_p0_cells a_p0_notes p0_boards u_7 s_notes p0_boards p0_cells p0_notes _ _ _ hm hR
theorem hdX3_takeFrom : yX3_takeFrom.cls = RX3 ∧ yX3_takeFrom.cls ≠ "java/lang/invoke/MethodHandle" ∧ yX3_takeFrom.cls ≠ "java/lang/invoke/VarHandle" ∧ (parseMethodDescriptor yX3_takeFrom.desc).map (fun d => d.parameters.length) = some 1 := by decide +kernel
-- RodBoard$Course.grown(I)I
def fX3_grown (p0 : Int32) (s_notes : Nat → Int32) : Option ((Int32)) := Option.bind (fX3_noted p0 (0 : Int32) s_notes) (fun r_1 => if r_1 = (0 : Int32) then Option.bind (fX3_noted p0 (1 : Int32) s_notes) (fun r_4 => some r_4) else if r_1 = (1 : Int32) then Option.bind (fX3_noted p0 (1 : Int32) s_notes) (fun r_7 => some r_7) else if r_1 = (2 : Int32) then Option.bind (fX3_noted p0 (5 : Int32) s_notes) (fun r_10 => some r_10) else Option.bind (fX3_noted p0 (4 : Int32) s_notes) (fun r_12 => some r_12))
set_option maxHeartbeats 4000000 in
set_option maxRecDepth 100000 in
theorem kX3_grown {l : Launch} (h0 : Nat) (a_s_cells : Nat) (a_s_notes : Nat) (s_boards : Int32) (s_cells : Nat → Int64) (s_notes : Nat → Int32) (p0 : Int32) (r : Int32) (hm : fX3_grown p0 s_notes = some r) : CtI l yX3_grown wsX3_grown ({ frames := 1, cells := 0, slots := 0, locals := 23 } : Room) [.ref h0, .int p0] [(h0, eO 3 [.ref a_s_cells, .ref a_s_notes, .int s_boards]), (a_s_cells, eJ 392 s_cells), (a_s_notes, eI 288 s_notes)] r [(h0, eO 3 [.ref a_s_cells, .ref a_s_notes, .int s_boards]), (a_s_cells, eJ 392 s_cells), (a_s_notes, eI 288 s_notes)] := by
  refine CtI_of (cc := cX3_grown) (maxL := 3) (ty := .int) (own := RX3) rfl (by decide) rfl (lv0 := [(0, .ref h0), (1, .int p0)]) rfl (Nat.le_of_ble_eq_true rfl) (fun Γ hL C hR => ?_)
  subst hL
  unfold fX3_grown at hm
  refine V_aload_n C 0 dX3_grown_0 rfl rfl ?_
  refine V_iload_n C 1 dX3_grown_1 rfl rfl ?_
  refine V_iconst C (v := (0 : Int32)) dX3_grown_2 (by decide) ?_
  obtain ⟨r_1, hc_2, hm⟩ := bnd hm
  refine V_callVI C (As := [.int p0, .int (0 : Int32)]) (wr := []) (ws2 := [(h0, eO 3 [.ref a_s_cells, .ref a_s_notes, .int s_boards]), (a_s_cells, eJ 392 s_cells), (a_s_notes, eI 288 s_notes)]) (kX3_noted h0 a_s_cells a_s_notes s_boards s_cells s_notes p0 (0 : Int32) r_1 hc_2) gX3_grown_X3_noted rfl ⟨rfl, rfl⟩ hdX3_noted ⟨Nat.le_of_ble_eq_true rfl, Nat.le_of_ble_eq_true rfl⟩ ⟨Nat.zero_le _, Nat.zero_le _⟩ 0 rfl rfl [0, 1, 2] [] [0, 1, 2] rfl rfl ⟨rfl, rfl, rfl⟩ (by decide) rfl rfl (Nat.le_of_ble_eq_true rfl) dX3_grown_3 ?_
  refine V_istore_n C (lv' := [(2, .int r_1), (0, .ref h0), (1, .int p0)]) dX3_grown_6 rfl (by decide) rfl ?_
  refine V_iload_n C 0 dX3_grown_7 rfl rfl ?_
  refine V_if_eq C 16 dX3_grown_8 (by decide) (fun c_3 => ?_) (fun c_3 => ?_)
  · have hm := ite_t c_3 hm
    refine V_aload_n C 1 dX3_grown_16 rfl rfl ?_
    refine V_iload_n C 2 dX3_grown_17 rfl rfl ?_
    refine V_iconst C (v := (1 : Int32)) dX3_grown_18 (by decide) ?_
    obtain ⟨r_4, hc_5, hm⟩ := bnd hm
    refine V_callVI C (As := [.int p0, .int (1 : Int32)]) (wr := []) (ws2 := [(h0, eO 3 [.ref a_s_cells, .ref a_s_notes, .int s_boards]), (a_s_cells, eJ 392 s_cells), (a_s_notes, eI 288 s_notes)]) (kX3_noted h0 a_s_cells a_s_notes s_boards s_cells s_notes p0 (1 : Int32) r_4 hc_5) gX3_grown_X3_noted rfl ⟨rfl, rfl⟩ hdX3_noted ⟨Nat.le_of_ble_eq_true rfl, Nat.le_of_ble_eq_true rfl⟩ ⟨Nat.zero_le _, Nat.zero_le _⟩ 0 rfl rfl [0, 1, 2] [] [0, 1, 2] rfl rfl ⟨rfl, rfl, rfl⟩ (by decide) rfl rfl (Nat.le_of_ble_eq_true rfl) dX3_grown_19 ?_
    cases hm
    exact hR _ _ rfl dX3_grown_22
  · have hm := ite_f c_3 hm
    refine V_iload_n C 0 dX3_grown_11 rfl rfl ?_
    refine V_iconst C (v := (1 : Int32)) dX3_grown_12 (by decide) ?_
    refine V_icmp_ne C 23 dX3_grown_13 (by decide) (fun c_6 => ?_) (fun c_6 => ?_)
    · have hm := ite_t c_6 hm
      refine V_aload_n C 1 dX3_grown_16 rfl rfl ?_
      refine V_iload_n C 2 dX3_grown_17 rfl rfl ?_
      refine V_iconst C (v := (1 : Int32)) dX3_grown_18 (by decide) ?_
      obtain ⟨r_7, hc_8, hm⟩ := bnd hm
      refine V_callVI C (As := [.int p0, .int (1 : Int32)]) (wr := []) (ws2 := [(h0, eO 3 [.ref a_s_cells, .ref a_s_notes, .int s_boards]), (a_s_cells, eJ 392 s_cells), (a_s_notes, eI 288 s_notes)]) (kX3_noted h0 a_s_cells a_s_notes s_boards s_cells s_notes p0 (1 : Int32) r_7 hc_8) gX3_grown_X3_noted rfl ⟨rfl, rfl⟩ hdX3_noted ⟨Nat.le_of_ble_eq_true rfl, Nat.le_of_ble_eq_true rfl⟩ ⟨Nat.zero_le _, Nat.zero_le _⟩ 0 rfl rfl [0, 1, 2] [] [0, 1, 2] rfl rfl ⟨rfl, rfl, rfl⟩ (by decide) rfl rfl (Nat.le_of_ble_eq_true rfl) dX3_grown_19 ?_
      cases hm
      exact hR _ _ rfl dX3_grown_22
    · have hm := ite_f c_6 hm
      refine V_aload_n C 1 dX3_grown_23 rfl rfl ?_
      refine V_iload_n C 2 dX3_grown_24 rfl rfl ?_
      refine V_iload_n C 0 dX3_grown_25 rfl rfl ?_
      refine V_iconst C (v := (2 : Int32)) dX3_grown_26 (by decide) ?_
      refine V_icmp_ne C 34 dX3_grown_27 (by decide) (fun c_9 => ?_) (fun c_9 => ?_)
      · have hm := ite_t c_9 hm
        refine V_iconst C (v := (5 : Int32)) dX3_grown_30 (by decide) ?_
        refine V_goto C 35 dX3_grown_31 (by decide) ?_
        obtain ⟨r_10, hc_11, hm⟩ := bnd hm
        refine V_callVI C (As := [.int p0, .int (5 : Int32)]) (wr := []) (ws2 := [(h0, eO 3 [.ref a_s_cells, .ref a_s_notes, .int s_boards]), (a_s_cells, eJ 392 s_cells), (a_s_notes, eI 288 s_notes)]) (kX3_noted h0 a_s_cells a_s_notes s_boards s_cells s_notes p0 (5 : Int32) r_10 hc_11) gX3_grown_X3_noted rfl ⟨rfl, rfl⟩ hdX3_noted ⟨Nat.le_of_ble_eq_true rfl, Nat.le_of_ble_eq_true rfl⟩ ⟨Nat.zero_le _, Nat.zero_le _⟩ 0 rfl rfl [0, 1, 2] [] [0, 1, 2] rfl rfl ⟨rfl, rfl, rfl⟩ (by decide) rfl rfl (Nat.le_of_ble_eq_true rfl) dX3_grown_35 ?_
        cases hm
        exact hR _ _ rfl dX3_grown_38
      · have hm := ite_f c_9 hm
        refine V_iconst C (v := (4 : Int32)) dX3_grown_34 (by decide) ?_
        obtain ⟨r_12, hc_13, hm⟩ := bnd hm
        refine V_callVI C (As := [.int p0, .int (4 : Int32)]) (wr := []) (ws2 := [(h0, eO 3 [.ref a_s_cells, .ref a_s_notes, .int s_boards]), (a_s_cells, eJ 392 s_cells), (a_s_notes, eI 288 s_notes)]) (kX3_noted h0 a_s_cells a_s_notes s_boards s_cells s_notes p0 (4 : Int32) r_12 hc_13) gX3_grown_X3_noted rfl ⟨rfl, rfl⟩ hdX3_noted ⟨Nat.le_of_ble_eq_true rfl, Nat.le_of_ble_eq_true rfl⟩ ⟨Nat.zero_le _, Nat.zero_le _⟩ 0 rfl rfl [0, 1, 2] [] [0, 1, 2] rfl rfl ⟨rfl, rfl, rfl⟩ (by decide) rfl rfl (Nat.le_of_ble_eq_true rfl) dX3_grown_35 ?_
        cases hm
        exact hR _ _ rfl dX3_grown_38
theorem hdX3_grown : yX3_grown.cls = RX3 ∧ yX3_grown.cls ≠ "java/lang/invoke/MethodHandle" ∧ yX3_grown.cls ≠ "java/lang/invoke/VarHandle" ∧ (parseMethodDescriptor yX3_grown.desc).map (fun d => d.parameters.length) = some 1 := by decide +kernel
-- RodBoard$Course.lessened(IJ)J
theorem mX3_lessened_1 : Cond.constantLong RX3 64 (-1000000000000000) ∈ wsX3_lessened := List.mem_of_getElem? (i := 1) rfl
def fX3_lessened_B45 (x2 : Int64) (x4 : Int64) (s0 : Int32) : Option ((Int64)) := Option.bind (fX5_power x4 s0) (fun r_13 => Option.bind (fX5_power (x4 + x2) s0) (fun r_15 => if r_13 = (-1000000000000000 : Int64) then some (-1000000000000000 : Int64) else if r_15 = (-1000000000000000 : Int64) then some (-1000000000000000 : Int64) else some (r_15 - r_13)))
set_option maxHeartbeats 4000000 in
set_option maxRecDepth 100000 in
theorem jX3_lessened_B45 {Γ : KT} (C : CX Γ cX3_lessened 11 wsX3_lessened RX3 ({ frames := 2, cells := 0, slots := 0, locals := 38 } : Room)) (h0 : Nat) (a_s_cells : Nat) (a_s_notes : Nat) (x2 : Int64) (x4 : Int64) (s0 : Int32) (s_boards : Int32) (s_cells : Nat → Int64) (s_notes : Nat → Int32) (r : Int64) (hm : fX3_lessened_B45 x2 x4 s0 = some r) (hR : (∀ (pc : Nat) (lv : List (Nat × Value)), decode cX3_lessened pc = .ok (.lreturn, 1) → V Γ 11 0 0 pc lv [.long r] [(h0, eO 3 [.ref a_s_cells, .ref a_s_notes, .int s_boards]), (a_s_cells, eJ 392 s_cells), (a_s_notes, eI 288 s_notes)])) : V Γ 11 0 0 45 [(2, .long x2), (4, .long x4)] [.int s0] [(h0, eO 3 [.ref a_s_cells, .ref a_s_notes, .int s_boards]), (a_s_cells, eJ 392 s_cells), (a_s_notes, eI 288 s_notes)] := by
  unfold fX3_lessened_B45 at hm
  refine V_istore C (lv' := [(6, .int s0), (2, .long x2), (4, .long x4)]) dX3_lessened_45 (by decide) rfl ?_
  refine V_lload C 2 dX3_lessened_47 rfl ?_
  refine V_iload C 0 dX3_lessened_49 rfl ?_
  obtain ⟨r_13, hc_14, hm⟩ := bnd hm
  refine V_callSL C (As := [.long x4, .int s0]) (wr := [(h0, eO 3 [.ref a_s_cells, .ref a_s_notes, .int s_boards]), (a_s_cells, eJ 392 s_cells), (a_s_notes, eI 288 s_notes)]) (ws2 := [(h0, eO 3 [.ref a_s_cells, .ref a_s_notes, .int s_boards]), (a_s_cells, eJ 392 s_cells), (a_s_notes, eI 288 s_notes)]) (kX5_power x4 s0 r_13 hc_14) gX3_lessened_X5_power rfl ⟨rfl, rfl⟩ hdX5_power ⟨Nat.le_of_ble_eq_true rfl, Nat.le_of_ble_eq_true rfl⟩ ⟨Nat.zero_le _, Nat.zero_le _⟩ [] [0, 1, 2] [0, 1, 2] rfl rfl ⟨rfl, rfl, rfl⟩ (by decide) rfl rfl (Nat.le_of_ble_eq_true rfl) dX3_lessened_51 ?_
  refine V_lstore C (lv' := [(7, .long r_13), (6, .int s0), (2, .long x2), (4, .long x4)]) dX3_lessened_54 (by decide) rfl ?_
  refine V_lload C 3 dX3_lessened_56 rfl ?_
  refine V_lload_n C 2 dX3_lessened_58 rfl rfl ?_
  refine V_ladd C dX3_lessened_59 ?_
  refine V_iload C 1 dX3_lessened_60 rfl ?_
  obtain ⟨r_15, hc_16, hm⟩ := bnd hm
  refine V_callSL C (As := [.long (x4 + x2), .int s0]) (wr := [(h0, eO 3 [.ref a_s_cells, .ref a_s_notes, .int s_boards]), (a_s_cells, eJ 392 s_cells), (a_s_notes, eI 288 s_notes)]) (ws2 := [(h0, eO 3 [.ref a_s_cells, .ref a_s_notes, .int s_boards]), (a_s_cells, eJ 392 s_cells), (a_s_notes, eI 288 s_notes)]) (kX5_power (x4 + x2) s0 r_15 hc_16) gX3_lessened_X5_power rfl ⟨rfl, rfl⟩ hdX5_power ⟨Nat.le_of_ble_eq_true rfl, Nat.le_of_ble_eq_true rfl⟩ ⟨Nat.zero_le _, Nat.zero_le _⟩ [] [0, 1, 2] [0, 1, 2] rfl rfl ⟨rfl, rfl, rfl⟩ (by decide) rfl rfl (Nat.le_of_ble_eq_true rfl) dX3_lessened_62 ?_
  refine V_lstore C (lv' := [(9, .long r_15), (7, .long r_13), (6, .int s0), (2, .long x2), (4, .long x4)]) dX3_lessened_65 (by decide) rfl ?_
  refine V_lload C 1 dX3_lessened_67 rfl ?_
  refine V_ldc2 C (v := (-1000000000000000 : Int64)) mX3_lessened_1 dX3_lessened_69 ?_
  refine V_lcmp_eq C 85 dX3_lessened_72 dX3_lessened_73 (by decide) (fun c_17 => ?_) (fun c_17 => ?_)
  · have hm := ite_t c_17 hm
    refine V_ldc2 C (v := (-1000000000000000 : Int64)) mX3_lessened_1 dX3_lessened_85 ?_
    refine V_goto C 96 dX3_lessened_88 (by decide) ?_
    cases hm
    exact hR _ _ dX3_lessened_96
  · have hm := ite_f c_17 hm
    refine V_lload C 0 dX3_lessened_76 rfl ?_
    refine V_ldc2 C (v := (-1000000000000000 : Int64)) mX3_lessened_1 dX3_lessened_78 ?_
    refine V_lcmp_ne C 91 dX3_lessened_81 dX3_lessened_82 (by decide) (fun c_18 => ?_) (fun c_18 => ?_)
    · have hm := ite_t c_18 hm
      refine V_ldc2 C (v := (-1000000000000000 : Int64)) mX3_lessened_1 dX3_lessened_85 ?_
      refine V_goto C 96 dX3_lessened_88 (by decide) ?_
      cases hm
      exact hR _ _ dX3_lessened_96
    · have hm := ite_f c_18 hm
      refine V_lload C 0 dX3_lessened_91 rfl ?_
      refine V_lload C 1 dX3_lessened_93 rfl ?_
      refine V_lsub C dX3_lessened_95 ?_
      cases hm
      exact hR _ _ dX3_lessened_96
def fX3_lessened (p0 : Int32) (p1 : Int64) (s_cells : Nat → Int64) (s_notes : Nat → Int32) : Option ((Int64)) := Option.bind (fX3_noted p0 (4 : Int32) s_notes) (fun r_1 => Option.bind (fX3_cell p0 r_1 s_cells) (fun r_3 => Option.bind (fX3_noted p0 (0 : Int32) s_notes) (fun r_5 => if r_5 = (2 : Int32) then Option.bind (fX5_product p1 r_3) (fun r_8 => some r_8) else Option.bind (fX3_noted p0 (0 : Int32) s_notes) (fun r_10 => if r_10 = (3 : Int32) then fX3_lessened_B45 p1 r_3 (2 : Int32) else fX3_lessened_B45 p1 r_3 (3 : Int32)))))
set_option maxHeartbeats 4000000 in
set_option maxRecDepth 100000 in
theorem kX3_lessened {l : Launch} (h0 : Nat) (a_s_cells : Nat) (a_s_notes : Nat) (s_boards : Int32) (s_cells : Nat → Int64) (s_notes : Nat → Int32) (p0 : Int32) (p1 : Int64) (r : Int64) (hm : fX3_lessened p0 p1 s_cells s_notes = some r) : CtL l yX3_lessened wsX3_lessened ({ frames := 2, cells := 0, slots := 0, locals := 38 } : Room) [.ref h0, .int p0, .long p1] [(h0, eO 3 [.ref a_s_cells, .ref a_s_notes, .int s_boards]), (a_s_cells, eJ 392 s_cells), (a_s_notes, eI 288 s_notes)] r [(h0, eO 3 [.ref a_s_cells, .ref a_s_notes, .int s_boards]), (a_s_cells, eJ 392 s_cells), (a_s_notes, eI 288 s_notes)] := by
  refine CtL_of (cc := cX3_lessened) (maxL := 11) (own := RX3) rfl (by decide) rfl (lv0 := [(0, .ref h0), (1, .int p0), (2, .long p1)]) rfl (Nat.le_of_ble_eq_true rfl) (fun Γ hL C hR => ?_)
  subst hL
  unfold fX3_lessened at hm
  refine V_aload_n C 0 dX3_lessened_0 rfl rfl ?_
  refine V_iload_n C 1 dX3_lessened_1 rfl rfl ?_
  refine V_aload_n C 0 dX3_lessened_2 rfl rfl ?_
  refine V_iload_n C 1 dX3_lessened_3 rfl rfl ?_
  refine V_iconst C (v := (4 : Int32)) dX3_lessened_4 (by decide) ?_
  obtain ⟨r_1, hc_2, hm⟩ := bnd hm
  refine V_callVI C (As := [.int p0, .int (4 : Int32)]) (wr := []) (ws2 := [(h0, eO 3 [.ref a_s_cells, .ref a_s_notes, .int s_boards]), (a_s_cells, eJ 392 s_cells), (a_s_notes, eI 288 s_notes)]) (kX3_noted h0 a_s_cells a_s_notes s_boards s_cells s_notes p0 (4 : Int32) r_1 hc_2) gX3_lessened_X3_noted rfl ⟨rfl, rfl⟩ hdX3_noted ⟨Nat.le_of_ble_eq_true rfl, Nat.le_of_ble_eq_true rfl⟩ ⟨Nat.zero_le _, Nat.zero_le _⟩ 0 rfl rfl [0, 1, 2] [] [0, 1, 2] rfl rfl ⟨rfl, rfl, rfl⟩ (by decide) rfl rfl (Nat.le_of_ble_eq_true rfl) dX3_lessened_5 ?_
  obtain ⟨r_3, hc_4, hm⟩ := bnd hm
  refine V_callVL C (As := [.int p0, .int r_1]) (wr := []) (ws2 := [(h0, eO 3 [.ref a_s_cells, .ref a_s_notes, .int s_boards]), (a_s_cells, eJ 392 s_cells), (a_s_notes, eI 288 s_notes)]) (kX3_cell h0 a_s_cells a_s_notes s_boards s_cells s_notes p0 r_1 r_3 hc_4) gX3_lessened_X3_cell rfl ⟨rfl, rfl⟩ hdX3_cell ⟨Nat.le_of_ble_eq_true rfl, Nat.le_of_ble_eq_true rfl⟩ ⟨Nat.zero_le _, Nat.zero_le _⟩ 0 rfl rfl [0, 1, 2] [] [0, 1, 2] rfl rfl ⟨rfl, rfl, rfl⟩ (by decide) rfl rfl (Nat.le_of_ble_eq_true rfl) dX3_lessened_8 ?_
  refine V_lstore C (lv' := [(4, .long r_3), (0, .ref h0), (1, .int p0), (2, .long p1)]) dX3_lessened_11 (by decide) rfl ?_
  refine V_aload_n C 1 dX3_lessened_13 rfl rfl ?_
  refine V_iload_n C 2 dX3_lessened_14 rfl rfl ?_
  refine V_iconst C (v := (0 : Int32)) dX3_lessened_15 (by decide) ?_
  obtain ⟨r_5, hc_6, hm⟩ := bnd hm
  refine V_callVI C (As := [.int p0, .int (0 : Int32)]) (wr := []) (ws2 := [(h0, eO 3 [.ref a_s_cells, .ref a_s_notes, .int s_boards]), (a_s_cells, eJ 392 s_cells), (a_s_notes, eI 288 s_notes)]) (kX3_noted h0 a_s_cells a_s_notes s_boards s_cells s_notes p0 (0 : Int32) r_5 hc_6) gX3_lessened_X3_noted rfl ⟨rfl, rfl⟩ hdX3_noted ⟨Nat.le_of_ble_eq_true rfl, Nat.le_of_ble_eq_true rfl⟩ ⟨Nat.zero_le _, Nat.zero_le _⟩ 0 rfl rfl [0, 1, 2] [] [0, 1, 2] rfl rfl ⟨rfl, rfl, rfl⟩ (by decide) rfl rfl (Nat.le_of_ble_eq_true rfl) dX3_lessened_16 ?_
  refine V_iconst C (v := (2 : Int32)) dX3_lessened_19 (by decide) ?_
  refine V_icmp_ne C 30 dX3_lessened_20 (by decide) (fun c_7 => ?_) (fun c_7 => ?_)
  · have hm := ite_t c_7 hm
    refine V_lload_n C 3 dX3_lessened_23 rfl rfl ?_
    refine V_lload C 0 dX3_lessened_24 rfl ?_
    obtain ⟨r_8, hc_9, hm⟩ := bnd hm
    refine V_callSL C (As := [.long p1, .long r_3]) (wr := [(h0, eO 3 [.ref a_s_cells, .ref a_s_notes, .int s_boards]), (a_s_cells, eJ 392 s_cells), (a_s_notes, eI 288 s_notes)]) (ws2 := [(h0, eO 3 [.ref a_s_cells, .ref a_s_notes, .int s_boards]), (a_s_cells, eJ 392 s_cells), (a_s_notes, eI 288 s_notes)]) (kX5_product p1 r_3 r_8 hc_9) gX3_lessened_X5_product rfl ⟨rfl, rfl⟩ hdX5_product ⟨Nat.le_of_ble_eq_true rfl, Nat.le_of_ble_eq_true rfl⟩ ⟨Nat.zero_le _, Nat.zero_le _⟩ [] [0, 1, 2] [0, 1, 2] rfl rfl ⟨rfl, rfl, rfl⟩ (by decide) rfl rfl (Nat.le_of_ble_eq_true rfl) dX3_lessened_26 ?_
    cases hm
    exact hR _ _ dX3_lessened_29
  · have hm := ite_f c_7 hm
    refine V_aload_n C 1 dX3_lessened_30 rfl rfl ?_
    refine V_iload_n C 2 dX3_lessened_31 rfl rfl ?_
    refine V_iconst C (v := (0 : Int32)) dX3_lessened_32 (by decide) ?_
    obtain ⟨r_10, hc_11, hm⟩ := bnd hm
    refine V_callVI C (As := [.int p0, .int (0 : Int32)]) (wr := []) (ws2 := [(h0, eO 3 [.ref a_s_cells, .ref a_s_notes, .int s_boards]), (a_s_cells, eJ 392 s_cells), (a_s_notes, eI 288 s_notes)]) (kX3_noted h0 a_s_cells a_s_notes s_boards s_cells s_notes p0 (0 : Int32) r_10 hc_11) gX3_lessened_X3_noted rfl ⟨rfl, rfl⟩ hdX3_noted ⟨Nat.le_of_ble_eq_true rfl, Nat.le_of_ble_eq_true rfl⟩ ⟨Nat.zero_le _, Nat.zero_le _⟩ 0 rfl rfl [0, 1, 2] [] [0, 1, 2] rfl rfl ⟨rfl, rfl, rfl⟩ (by decide) rfl rfl (Nat.le_of_ble_eq_true rfl) dX3_lessened_33 ?_
    refine V_iconst C (v := (3 : Int32)) dX3_lessened_36 (by decide) ?_
    refine V_icmp_ne C 44 dX3_lessened_37 (by decide) (fun c_12 => ?_) (fun c_12 => ?_)
    · have hm := ite_t c_12 hm
      refine V_iconst C (v := (2 : Int32)) dX3_lessened_40 (by decide) ?_
      refine V_goto C 45 dX3_lessened_41 (by decide) ?_
      refine V_lv [3, 0] rfl ?_
      exact jX3_lessened_B45 C h0 a_s_cells a_s_notes p1 r_3 (2 : Int32) s_boards s_cells s_notes _ hm hR
    · have hm := ite_f c_12 hm
      refine V_iconst C (v := (3 : Int32)) dX3_lessened_44 (by decide) ?_
      refine V_lv [3, 0] rfl ?_
      exact jX3_lessened_B45 C h0 a_s_cells a_s_notes p1 r_3 (3 : Int32) s_boards s_cells s_notes _ hm hR
theorem hdX3_lessened : yX3_lessened.cls = RX3 ∧ yX3_lessened.cls ≠ "java/lang/invoke/MethodHandle" ∧ yX3_lessened.cls ≠ "java/lang/invoke/VarHandle" ∧ (parseMethodDescriptor yX3_lessened.desc).map (fun d => d.parameters.length) = some 2 := by decide +kernel
-- RodBoard$Course.walked(II)J
theorem mX3_walked_1 : Cond.constantLong RX3 64 (-1000000000000000) ∈ wsX3_walked := List.mem_of_getElem? (i := 1) rfl
def fX3_walked_B30 (x1 : Int32) (x2 : Int32) (x3 : Int64) (x5 : Int32) (s0 : Int32) (s_cells : Nat → Int64) (s_notes : Nat → Int32) : Option ((Int64)) := if x5 = (5 : Int32) then if s0 = (0 : Int32) then some x3 else some (0 : Int64) else Option.bind (fX3_noted x1 (3 : Int32) s_notes) (fun r_10 => Option.bind (fX3_noted x1 (2 : Int32) s_notes) (fun r_12 => Option.bind (fX5_tenTo r_12) (fun r_14 => Option.bind (fX3_grown x1 s_notes) (fun r_16 => if x2 = r_16 then Option.bind (fX5_isBeyond (x3 + (r_10.toInt64 * r_14))) (fun r_19 => if r_19 = (0 : Int32) then some (x3 + (r_10.toInt64 * r_14)) else some (-1000000000000000 : Int64)) else if s0 = (0 : Int32) then Option.bind (fX5_isBeyond x3) (fun r_23 => if r_23 = (0 : Int32) then some x3 else some (-1000000000000000 : Int64)) else Option.bind (fX3_lessened x1 (r_10.toInt64 * r_14) s_cells s_notes) (fun r_26 => Option.bind (fX5_isBeyond r_26) (fun r_28 => if r_28 = (0 : Int32) then Option.bind (fX5_isBeyond (x3 - r_26)) (fun r_31 => if r_31 = (0 : Int32) then some (x3 - r_26) else some (-1000000000000000 : Int64)) else some (-1000000000000000 : Int64)))))))
set_option maxHeartbeats 4000000 in
set_option maxRecDepth 100000 in
theorem jX3_walked_B30 {Γ : KT} (C : CX Γ cX3_walked 11 wsX3_walked RX3 ({ frames := 3, cells := 0, slots := 0, locals := 68 } : Room)) (h0 : Nat) (a_s_cells : Nat) (a_s_notes : Nat) (x1 : Int32) (x2 : Int32) (x3 : Int64) (x5 : Int32) (s0 : Int32) (s_boards : Int32) (s_cells : Nat → Int64) (s_notes : Nat → Int32) (r : Int64) (hm : fX3_walked_B30 x1 x2 x3 x5 s0 s_cells s_notes = some r) (hR : (∀ (pc : Nat) (lv : List (Nat × Value)), decode cX3_walked pc = .ok (.lreturn, 1) → V Γ 11 0 0 pc lv [.long r] [(h0, eO 3 [.ref a_s_cells, .ref a_s_notes, .int s_boards]), (a_s_cells, eJ 392 s_cells), (a_s_notes, eI 288 s_notes)])) : V Γ 11 0 0 30 [(0, .ref h0), (1, .int x1), (2, .int x2), (3, .long x3), (5, .int x5)] [.int s0] [(h0, eO 3 [.ref a_s_cells, .ref a_s_notes, .int s_boards]), (a_s_cells, eJ 392 s_cells), (a_s_notes, eI 288 s_notes)] := by
  unfold fX3_walked_B30 at hm
  refine V_istore C (lv' := [(6, .int s0), (0, .ref h0), (1, .int x1), (2, .int x2), (3, .long x3), (5, .int x5)]) dX3_walked_30 (by decide) rfl ?_
  refine V_iload C 5 dX3_walked_32 rfl ?_
  refine V_iconst C (v := (5 : Int32)) dX3_walked_34 (by decide) ?_
  refine V_icmp_ne C 49 dX3_walked_35 (by decide) (fun c_8 => ?_) (fun c_8 => ?_)
  · have hm := ite_t c_8 hm
    refine V_iload C 0 dX3_walked_38 rfl ?_
    refine V_if_eq C 47 dX3_walked_40 (by decide) (fun c_9 => ?_) (fun c_9 => ?_)
    · have hm := ite_t c_9 hm
      refine V_lload_n C 4 dX3_walked_47 rfl rfl ?_
      cases hm
      exact hR _ _ dX3_walked_48
    · have hm := ite_f c_9 hm
      refine V_lconst C (v := (0 : Int64)) dX3_walked_43 (by decide) ?_
      refine V_goto C 48 dX3_walked_44 (by decide) ?_
      cases hm
      exact hR _ _ dX3_walked_48
  · have hm := ite_f c_8 hm
    refine V_aload_n C 1 dX3_walked_49 rfl rfl ?_
    refine V_iload_n C 2 dX3_walked_50 rfl rfl ?_
    refine V_iconst C (v := (3 : Int32)) dX3_walked_51 (by decide) ?_
    obtain ⟨r_10, hc_11, hm⟩ := bnd hm
    refine V_callVI C (As := [.int x1, .int (3 : Int32)]) (wr := []) (ws2 := [(h0, eO 3 [.ref a_s_cells, .ref a_s_notes, .int s_boards]), (a_s_cells, eJ 392 s_cells), (a_s_notes, eI 288 s_notes)]) (kX3_noted h0 a_s_cells a_s_notes s_boards s_cells s_notes x1 (3 : Int32) r_10 hc_11) gX3_walked_X3_noted rfl ⟨rfl, rfl⟩ hdX3_noted ⟨Nat.le_of_ble_eq_true rfl, Nat.le_of_ble_eq_true rfl⟩ ⟨Nat.zero_le _, Nat.zero_le _⟩ 0 rfl rfl [0, 1, 2] [] [0, 1, 2] rfl rfl ⟨rfl, rfl, rfl⟩ (by decide) rfl rfl (Nat.le_of_ble_eq_true rfl) dX3_walked_52 ?_
    refine V_i2l C dX3_walked_55 ?_
    refine V_aload_n C 1 dX3_walked_56 rfl rfl ?_
    refine V_iload_n C 2 dX3_walked_57 rfl rfl ?_
    refine V_iconst C (v := (2 : Int32)) dX3_walked_58 (by decide) ?_
    obtain ⟨r_12, hc_13, hm⟩ := bnd hm
    refine V_callVI C (As := [.int x1, .int (2 : Int32)]) (wr := []) (ws2 := [(h0, eO 3 [.ref a_s_cells, .ref a_s_notes, .int s_boards]), (a_s_cells, eJ 392 s_cells), (a_s_notes, eI 288 s_notes)]) (kX3_noted h0 a_s_cells a_s_notes s_boards s_cells s_notes x1 (2 : Int32) r_12 hc_13) gX3_walked_X3_noted rfl ⟨rfl, rfl⟩ hdX3_noted ⟨Nat.le_of_ble_eq_true rfl, Nat.le_of_ble_eq_true rfl⟩ ⟨Nat.zero_le _, Nat.zero_le _⟩ 0 rfl rfl [0, 1, 2] [] [0, 1, 2] rfl rfl ⟨rfl, rfl, rfl⟩ (by decide) rfl rfl (Nat.le_of_ble_eq_true rfl) dX3_walked_59 ?_
    obtain ⟨r_14, hc_15, hm⟩ := bnd hm
    refine V_callSL C (As := [.int r_12]) (wr := [(h0, eO 3 [.ref a_s_cells, .ref a_s_notes, .int s_boards]), (a_s_cells, eJ 392 s_cells), (a_s_notes, eI 288 s_notes)]) (ws2 := [(h0, eO 3 [.ref a_s_cells, .ref a_s_notes, .int s_boards]), (a_s_cells, eJ 392 s_cells), (a_s_notes, eI 288 s_notes)]) (kX5_tenTo r_12 r_14 hc_15) gX3_walked_X5_tenTo rfl ⟨rfl, rfl⟩ hdX5_tenTo ⟨Nat.le_of_ble_eq_true rfl, Nat.le_of_ble_eq_true rfl⟩ ⟨Nat.zero_le _, Nat.zero_le _⟩ [] [0, 1, 2] [0, 1, 2] rfl rfl ⟨rfl, rfl, rfl⟩ (by decide) rfl rfl (Nat.le_of_ble_eq_true rfl) dX3_walked_62 ?_
    refine V_lmul C dX3_walked_65 ?_
    refine V_lstore C (lv' := [(7, .long (r_10.toInt64 * r_14)), (6, .int s0), (0, .ref h0), (1, .int x1), (2, .int x2), (3, .long x3), (5, .int x5)]) dX3_walked_66 (by decide) rfl ?_
    refine V_iload_n C 4 dX3_walked_68 rfl rfl ?_
    refine V_aload_n C 2 dX3_walked_69 rfl rfl ?_
    refine V_iload_n C 3 dX3_walked_70 rfl rfl ?_
    obtain ⟨r_16, hc_17, hm⟩ := bnd hm
    refine V_callVI C (As := [.int x1]) (wr := []) (ws2 := [(h0, eO 3 [.ref a_s_cells, .ref a_s_notes, .int s_boards]), (a_s_cells, eJ 392 s_cells), (a_s_notes, eI 288 s_notes)]) (kX3_grown h0 a_s_cells a_s_notes s_boards s_cells s_notes x1 r_16 hc_17) gX3_walked_X3_grown rfl ⟨rfl, rfl⟩ hdX3_grown ⟨Nat.le_of_ble_eq_true rfl, Nat.le_of_ble_eq_true rfl⟩ ⟨Nat.zero_le _, Nat.zero_le _⟩ 0 rfl rfl [0, 1, 2] [] [0, 1, 2] rfl rfl ⟨rfl, rfl, rfl⟩ (by decide) rfl rfl (Nat.le_of_ble_eq_true rfl) dX3_walked_71 ?_
    refine V_icmp_ne C 85 dX3_walked_74 (by decide) (fun c_18 => ?_) (fun c_18 => ?_)
    · have hm := ite_t c_18 hm
      refine V_lload_n C 5 dX3_walked_77 rfl rfl ?_
      refine V_lload C 0 dX3_walked_78 rfl ?_
      refine V_ladd C dX3_walked_80 ?_
      refine V_lstore_n C (lv' := [(3, .long (x3 + (r_10.toInt64 * r_14))), (7, .long (r_10.toInt64 * r_14)), (6, .int s0), (0, .ref h0), (1, .int x1), (2, .int x2), (5, .int x5)]) dX3_walked_81 rfl (by decide) rfl ?_
      refine V_goto C 116 dX3_walked_82 (by decide) ?_
      refine V_lload_n C 0 dX3_walked_116 rfl rfl ?_
      obtain ⟨r_19, hc_20, hm⟩ := bnd hm
      refine V_callSI C (As := [.long (x3 + (r_10.toInt64 * r_14))]) (wr := [(h0, eO 3 [.ref a_s_cells, .ref a_s_notes, .int s_boards]), (a_s_cells, eJ 392 s_cells), (a_s_notes, eI 288 s_notes)]) (ws2 := [(h0, eO 3 [.ref a_s_cells, .ref a_s_notes, .int s_boards]), (a_s_cells, eJ 392 s_cells), (a_s_notes, eI 288 s_notes)]) (kX5_isBeyond (x3 + (r_10.toInt64 * r_14)) r_19 hc_20) gX3_walked_X5_isBeyond rfl ⟨rfl, rfl⟩ hdX5_isBeyond ⟨Nat.le_of_ble_eq_true rfl, Nat.le_of_ble_eq_true rfl⟩ ⟨Nat.zero_le _, Nat.zero_le _⟩ [] [0, 1, 2] [0, 1, 2] rfl rfl ⟨rfl, rfl, rfl⟩ (by decide) rfl rfl (Nat.le_of_ble_eq_true rfl) dX3_walked_117 ?_
      refine V_if_eq C 129 dX3_walked_120 (by decide) (fun c_21 => ?_) (fun c_21 => ?_)
      · have hm := ite_t c_21 hm
        refine V_lload_n C 0 dX3_walked_129 rfl rfl ?_
        cases hm
        exact hR _ _ dX3_walked_130
      · have hm := ite_f c_21 hm
        refine V_ldc2 C (v := (-1000000000000000 : Int64)) mX3_walked_1 dX3_walked_123 ?_
        refine V_goto C 130 dX3_walked_126 (by decide) ?_
        cases hm
        exact hR _ _ dX3_walked_130
    · have hm := ite_f c_18 hm
      refine V_iload C 1 dX3_walked_85 rfl ?_
      refine V_if_eq C 116 dX3_walked_87 (by decide) (fun c_22 => ?_) (fun c_22 => ?_)
      · have hm := ite_t c_22 hm
        refine V_lload_n C 5 dX3_walked_116 rfl rfl ?_
        obtain ⟨r_23, hc_24, hm⟩ := bnd hm
        refine V_callSI C (As := [.long x3]) (wr := [(h0, eO 3 [.ref a_s_cells, .ref a_s_notes, .int s_boards]), (a_s_cells, eJ 392 s_cells), (a_s_notes, eI 288 s_notes)]) (ws2 := [(h0, eO 3 [.ref a_s_cells, .ref a_s_notes, .int s_boards]), (a_s_cells, eJ 392 s_cells), (a_s_notes, eI 288 s_notes)]) (kX5_isBeyond x3 r_23 hc_24) gX3_walked_X5_isBeyond rfl ⟨rfl, rfl⟩ hdX5_isBeyond ⟨Nat.le_of_ble_eq_true rfl, Nat.le_of_ble_eq_true rfl⟩ ⟨Nat.zero_le _, Nat.zero_le _⟩ [] [0, 1, 2] [0, 1, 2] rfl rfl ⟨rfl, rfl, rfl⟩ (by decide) rfl rfl (Nat.le_of_ble_eq_true rfl) dX3_walked_117 ?_
        refine V_if_eq C 129 dX3_walked_120 (by decide) (fun c_25 => ?_) (fun c_25 => ?_)
        · have hm := ite_t c_25 hm
          refine V_lload_n C 5 dX3_walked_129 rfl rfl ?_
          cases hm
          exact hR _ _ dX3_walked_130
        · have hm := ite_f c_25 hm
          refine V_ldc2 C (v := (-1000000000000000 : Int64)) mX3_walked_1 dX3_walked_123 ?_
          refine V_goto C 130 dX3_walked_126 (by decide) ?_
          cases hm
          exact hR _ _ dX3_walked_130
      · have hm := ite_f c_22 hm
        refine V_aload_n C 2 dX3_walked_90 rfl rfl ?_
        refine V_iload_n C 3 dX3_walked_91 rfl rfl ?_
        refine V_lload C 0 dX3_walked_92 rfl ?_
        obtain ⟨r_26, hc_27, hm⟩ := bnd hm
        refine V_callVL C (As := [.int x1, .long (r_10.toInt64 * r_14)]) (wr := []) (ws2 := [(h0, eO 3 [.ref a_s_cells, .ref a_s_notes, .int s_boards]), (a_s_cells, eJ 392 s_cells), (a_s_notes, eI 288 s_notes)]) (kX3_lessened h0 a_s_cells a_s_notes s_boards s_cells s_notes x1 (r_10.toInt64 * r_14) r_26 hc_27) gX3_walked_X3_lessened rfl ⟨rfl, rfl⟩ hdX3_lessened ⟨Nat.le_of_ble_eq_true rfl, Nat.le_of_ble_eq_true rfl⟩ ⟨Nat.zero_le _, Nat.zero_le _⟩ 0 rfl rfl [0, 1, 2] [] [0, 1, 2] rfl rfl ⟨rfl, rfl, rfl⟩ (by decide) rfl rfl (Nat.le_of_ble_eq_true rfl) dX3_walked_94 ?_
        refine V_lstore C (lv' := [(9, .long r_26), (7, .long (r_10.toInt64 * r_14)), (6, .int s0), (0, .ref h0), (1, .int x1), (2, .int x2), (3, .long x3), (5, .int x5)]) dX3_walked_97 (by decide) rfl ?_
        refine V_lload C 0 dX3_walked_99 rfl ?_
        obtain ⟨r_28, hc_29, hm⟩ := bnd hm
        refine V_callSI C (As := [.long r_26]) (wr := [(h0, eO 3 [.ref a_s_cells, .ref a_s_notes, .int s_boards]), (a_s_cells, eJ 392 s_cells), (a_s_notes, eI 288 s_notes)]) (ws2 := [(h0, eO 3 [.ref a_s_cells, .ref a_s_notes, .int s_boards]), (a_s_cells, eJ 392 s_cells), (a_s_notes, eI 288 s_notes)]) (kX5_isBeyond r_26 r_28 hc_29) gX3_walked_X5_isBeyond rfl ⟨rfl, rfl⟩ hdX5_isBeyond ⟨Nat.le_of_ble_eq_true rfl, Nat.le_of_ble_eq_true rfl⟩ ⟨Nat.zero_le _, Nat.zero_le _⟩ [] [0, 1, 2] [0, 1, 2] rfl rfl ⟨rfl, rfl, rfl⟩ (by decide) rfl rfl (Nat.le_of_ble_eq_true rfl) dX3_walked_101 ?_
        refine V_if_eq C 111 dX3_walked_104 (by decide) (fun c_30 => ?_) (fun c_30 => ?_)
        · have hm := ite_t c_30 hm
          refine V_lload_n C 6 dX3_walked_111 rfl rfl ?_
          refine V_lload C 0 dX3_walked_112 rfl ?_
          refine V_lsub C dX3_walked_114 ?_
          refine V_lstore_n C (lv' := [(3, .long (x3 - r_26)), (9, .long r_26), (7, .long (r_10.toInt64 * r_14)), (6, .int s0), (0, .ref h0), (1, .int x1), (2, .int x2), (5, .int x5)]) dX3_walked_115 rfl (by decide) rfl ?_
          refine V_lload_n C 0 dX3_walked_116 rfl rfl ?_
          obtain ⟨r_31, hc_32, hm⟩ := bnd hm
          refine V_callSI C (As := [.long (x3 - r_26)]) (wr := [(h0, eO 3 [.ref a_s_cells, .ref a_s_notes, .int s_boards]), (a_s_cells, eJ 392 s_cells), (a_s_notes, eI 288 s_notes)]) (ws2 := [(h0, eO 3 [.ref a_s_cells, .ref a_s_notes, .int s_boards]), (a_s_cells, eJ 392 s_cells), (a_s_notes, eI 288 s_notes)]) (kX5_isBeyond (x3 - r_26) r_31 hc_32) gX3_walked_X5_isBeyond rfl ⟨rfl, rfl⟩ hdX5_isBeyond ⟨Nat.le_of_ble_eq_true rfl, Nat.le_of_ble_eq_true rfl⟩ ⟨Nat.zero_le _, Nat.zero_le _⟩ [] [0, 1, 2] [0, 1, 2] rfl rfl ⟨rfl, rfl, rfl⟩ (by decide) rfl rfl (Nat.le_of_ble_eq_true rfl) dX3_walked_117 ?_
          refine V_if_eq C 129 dX3_walked_120 (by decide) (fun c_33 => ?_) (fun c_33 => ?_)
          · have hm := ite_t c_33 hm
            refine V_lload_n C 0 dX3_walked_129 rfl rfl ?_
            cases hm
            exact hR _ _ dX3_walked_130
          · have hm := ite_f c_33 hm
            refine V_ldc2 C (v := (-1000000000000000 : Int64)) mX3_walked_1 dX3_walked_123 ?_
            refine V_goto C 130 dX3_walked_126 (by decide) ?_
            cases hm
            exact hR _ _ dX3_walked_130
        · have hm := ite_f c_30 hm
          refine V_ldc2 C (v := (-1000000000000000 : Int64)) mX3_walked_1 dX3_walked_107 ?_
          cases hm
          exact hR _ _ dX3_walked_110
def fX3_walked (p0 : Int32) (p1 : Int32) (s_cells : Nat → Int64) (s_notes : Nat → Int32) : Option ((Int64)) := Option.bind (fX3_cell p0 p1 s_cells) (fun r_1 => Option.bind (fX3_noted p0 (0 : Int32) s_notes) (fun r_3 => Option.bind (fX3_noted p0 (1 : Int32) s_notes) (fun r_5 => if p1 = r_5 then fX3_walked_B30 p0 p1 r_1 r_3 (1 : Int32) s_cells s_notes else fX3_walked_B30 p0 p1 r_1 r_3 (0 : Int32) s_cells s_notes)))
set_option maxHeartbeats 4000000 in
set_option maxRecDepth 100000 in
theorem kX3_walked {l : Launch} (h0 : Nat) (a_s_cells : Nat) (a_s_notes : Nat) (s_boards : Int32) (s_cells : Nat → Int64) (s_notes : Nat → Int32) (p0 : Int32) (p1 : Int32) (r : Int64) (hm : fX3_walked p0 p1 s_cells s_notes = some r) : CtL l yX3_walked wsX3_walked ({ frames := 3, cells := 0, slots := 0, locals := 68 } : Room) [.ref h0, .int p0, .int p1] [(h0, eO 3 [.ref a_s_cells, .ref a_s_notes, .int s_boards]), (a_s_cells, eJ 392 s_cells), (a_s_notes, eI 288 s_notes)] r [(h0, eO 3 [.ref a_s_cells, .ref a_s_notes, .int s_boards]), (a_s_cells, eJ 392 s_cells), (a_s_notes, eI 288 s_notes)] := by
  refine CtL_of (cc := cX3_walked) (maxL := 11) (own := RX3) rfl (by decide) rfl (lv0 := [(0, .ref h0), (1, .int p0), (2, .int p1)]) rfl (Nat.le_of_ble_eq_true rfl) (fun Γ hL C hR => ?_)
  subst hL
  unfold fX3_walked at hm
  refine V_aload_n C 0 dX3_walked_0 rfl rfl ?_
  refine V_iload_n C 1 dX3_walked_1 rfl rfl ?_
  refine V_iload_n C 2 dX3_walked_2 rfl rfl ?_
  obtain ⟨r_1, hc_2, hm⟩ := bnd hm
  refine V_callVL C (As := [.int p0, .int p1]) (wr := []) (ws2 := [(h0, eO 3 [.ref a_s_cells, .ref a_s_notes, .int s_boards]), (a_s_cells, eJ 392 s_cells), (a_s_notes, eI 288 s_notes)]) (kX3_cell h0 a_s_cells a_s_notes s_boards s_cells s_notes p0 p1 r_1 hc_2) gX3_walked_X3_cell rfl ⟨rfl, rfl⟩ hdX3_cell ⟨Nat.le_of_ble_eq_true rfl, Nat.le_of_ble_eq_true rfl⟩ ⟨Nat.zero_le _, Nat.zero_le _⟩ 0 rfl rfl [0, 1, 2] [] [0, 1, 2] rfl rfl ⟨rfl, rfl, rfl⟩ (by decide) rfl rfl (Nat.le_of_ble_eq_true rfl) dX3_walked_3 ?_
  refine V_lstore_n C (lv' := [(3, .long r_1), (0, .ref h0), (1, .int p0), (2, .int p1)]) dX3_walked_6 rfl (by decide) rfl ?_
  refine V_aload_n C 1 dX3_walked_7 rfl rfl ?_
  refine V_iload_n C 2 dX3_walked_8 rfl rfl ?_
  refine V_iconst C (v := (0 : Int32)) dX3_walked_9 (by decide) ?_
  obtain ⟨r_3, hc_4, hm⟩ := bnd hm
  refine V_callVI C (As := [.int p0, .int (0 : Int32)]) (wr := []) (ws2 := [(h0, eO 3 [.ref a_s_cells, .ref a_s_notes, .int s_boards]), (a_s_cells, eJ 392 s_cells), (a_s_notes, eI 288 s_notes)]) (kX3_noted h0 a_s_cells a_s_notes s_boards s_cells s_notes p0 (0 : Int32) r_3 hc_4) gX3_walked_X3_noted rfl ⟨rfl, rfl⟩ hdX3_noted ⟨Nat.le_of_ble_eq_true rfl, Nat.le_of_ble_eq_true rfl⟩ ⟨Nat.zero_le _, Nat.zero_le _⟩ 0 rfl rfl [0, 1, 2] [] [0, 1, 2] rfl rfl ⟨rfl, rfl, rfl⟩ (by decide) rfl rfl (Nat.le_of_ble_eq_true rfl) dX3_walked_10 ?_
  refine V_istore C (lv' := [(5, .int r_3), (3, .long r_1), (0, .ref h0), (1, .int p0), (2, .int p1)]) dX3_walked_13 (by decide) rfl ?_
  refine V_iload_n C 4 dX3_walked_15 rfl rfl ?_
  refine V_aload_n C 2 dX3_walked_16 rfl rfl ?_
  refine V_iload_n C 3 dX3_walked_17 rfl rfl ?_
  refine V_iconst C (v := (1 : Int32)) dX3_walked_18 (by decide) ?_
  obtain ⟨r_5, hc_6, hm⟩ := bnd hm
  refine V_callVI C (As := [.int p0, .int (1 : Int32)]) (wr := []) (ws2 := [(h0, eO 3 [.ref a_s_cells, .ref a_s_notes, .int s_boards]), (a_s_cells, eJ 392 s_cells), (a_s_notes, eI 288 s_notes)]) (kX3_noted h0 a_s_cells a_s_notes s_boards s_cells s_notes p0 (1 : Int32) r_5 hc_6) gX3_walked_X3_noted rfl ⟨rfl, rfl⟩ hdX3_noted ⟨Nat.le_of_ble_eq_true rfl, Nat.le_of_ble_eq_true rfl⟩ ⟨Nat.zero_le _, Nat.zero_le _⟩ 0 rfl rfl [0, 1, 2] [] [0, 1, 2] rfl rfl ⟨rfl, rfl, rfl⟩ (by decide) rfl rfl (Nat.le_of_ble_eq_true rfl) dX3_walked_19 ?_
  refine V_icmp_ne C 29 dX3_walked_22 (by decide) (fun c_7 => ?_) (fun c_7 => ?_)
  · have hm := ite_t c_7 hm
    refine V_iconst C (v := (1 : Int32)) dX3_walked_25 (by decide) ?_
    refine V_goto C 30 dX3_walked_26 (by decide) ?_
    refine V_lv [2, 3, 4, 1, 0] rfl ?_
    exact jX3_walked_B30 C h0 a_s_cells a_s_notes p0 p1 r_1 r_3 (1 : Int32) s_boards s_cells s_notes _ hm hR
  · have hm := ite_f c_7 hm
    refine V_iconst C (v := (0 : Int32)) dX3_walked_29 (by decide) ?_
    refine V_lv [2, 3, 4, 1, 0] rfl ?_
    exact jX3_walked_B30 C h0 a_s_cells a_s_notes p0 p1 r_1 r_3 (0 : Int32) s_boards s_cells s_notes _ hm hR
theorem hdX3_walked : yX3_walked.cls = RX3 ∧ yX3_walked.cls ≠ "java/lang/invoke/MethodHandle" ∧ yX3_walked.cls ≠ "java/lang/invoke/VarHandle" ∧ (parseMethodDescriptor yX3_walked.desc).map (fun d => d.parameters.length) = some 2 := by decide +kernel
-- RodBoard$Course.go(IIIIII)V
theorem uX3_go_X3 : ∀ w ∈ wsX30, w ∈ wsX3_go := fun _ h => List.mem_cons_of_mem _ (List.mem_append_right _ h)
theorem mX3_go_1 : Cond.fieldLink RX3 19 "RodBoard$Course" "boards" "I" ∈ wsX3_go := List.mem_of_getElem? (i := 1) rfl
def fX3_go_L80b (x7 : Int32) (s_boards : Int32) (s_notes : Nat → Int32) (x8 : Int32) (s_cells : Nat → Int64) : Option (((Int32) × (Nat → Int64)) ⊕ ((Nat → Int64))) := if x8 < (8 : Int32) then Option.bind (fX3_walked x7 x8 s_cells s_notes) (fun r_16 => Option.bind (fX3_put s_boards x8 r_16 s_cells) (fun w_18 => some (Sum.inl (x8 + (1 : Int32), w_18)))) else some (Sum.inr s_cells)
def fX3_go_L80 (x7 : Int32) (s_boards : Int32) (s_notes : Nat → Int32) : ((Int32) × (Nat → Int64)) → Option (((Int32) × (Nat → Int64)) ⊕ ((Nat → Int64))) := fun e => fX3_go_L80b x7 s_boards s_notes e.1 e.2
set_option maxHeartbeats 4000000 in
set_option maxRecDepth 100000 in
theorem bX3_go_L80 {Γ : KT} (C : CX Γ cX3_go 9 wsX3_go RX3 ({ frames := 4, cells := 0, slots := 0, locals := 98 } : Room)) (h0 : Nat) (a_s_cells : Nat) (a_s_notes : Nat) (x7 : Int32) (s_boards : Int32) (s_notes : Nat → Int32) (x8 : Int32) (s_cells : Nat → Int64) (x : ((Int32) × (Nat → Int64)) ⊕ ((Nat → Int64))) (hm : fX3_go_L80b x7 s_boards s_notes x8 s_cells = some x) (hb : (∀ (x8' : Int32) (s_cells' : Nat → Int64), x = Sum.inl (x8', s_cells') → V Γ 9 0 0 80 [(0, .ref h0), (7, .int x7), (8, .int x8')] [] [(h0, eO 3 [.ref a_s_cells, .ref a_s_notes, .int s_boards]), (a_s_cells, eJ 392 s_cells'), (a_s_notes, eI 288 s_notes)])) (he0 : (∀ (s_cells' : Nat → Int64), x = Sum.inr s_cells' → V Γ 9 0 0 111 [(0, .ref h0)] [] [(h0, eO 3 [.ref a_s_cells, .ref a_s_notes, .int s_boards]), (a_s_cells, eJ 392 s_cells'), (a_s_notes, eI 288 s_notes)])) : V Γ 9 0 0 80 [(0, .ref h0), (7, .int x7), (8, .int x8)] [] [(h0, eO 3 [.ref a_s_cells, .ref a_s_notes, .int s_boards]), (a_s_cells, eJ 392 s_cells), (a_s_notes, eI 288 s_notes)] := by
  unfold fX3_go_L80b at hm
  refine V_iload C 2 dX3_go_80 rfl ?_
  refine V_bipush C (v := (8 : Int32)) dX3_go_82 (by decide) ?_
  refine V_icmp_ge C 111 dX3_go_84 (by decide) (fun c_15 => ?_) (fun c_15 => ?_)
  · have hm := ite_t c_15 hm
    refine V_aload_n C 0 dX3_go_87 rfl rfl ?_
    refine V_aload_n C 0 dX3_go_88 rfl rfl ?_
    refine V_get C uX3_go_X3 0 2 rfl rfl (by decide) mX3_go_1 rfl dX3_go_89 ?_
    refine V_iload C 2 dX3_go_92 rfl ?_
    refine V_aload_n C 0 dX3_go_94 rfl rfl ?_
    refine V_iload C 1 dX3_go_95 rfl ?_
    refine V_iload C 2 dX3_go_97 rfl ?_
    obtain ⟨r_16, hc_17, hm⟩ := bnd hm
    refine V_callVL C (As := [.int x7, .int x8]) (wr := []) (ws2 := [(h0, eO 3 [.ref a_s_cells, .ref a_s_notes, .int s_boards]), (a_s_cells, eJ 392 s_cells), (a_s_notes, eI 288 s_notes)]) (kX3_walked h0 a_s_cells a_s_notes s_boards s_cells s_notes x7 x8 r_16 hc_17) gX3_go_X3_walked rfl ⟨rfl, rfl⟩ hdX3_walked ⟨Nat.le_of_ble_eq_true rfl, Nat.le_of_ble_eq_true rfl⟩ ⟨Nat.zero_le _, Nat.zero_le _⟩ 0 rfl rfl [0, 1, 2] [] [0, 1, 2] rfl rfl ⟨rfl, rfl, rfl⟩ (by decide) rfl rfl (Nat.le_of_ble_eq_true rfl) dX3_go_99 ?_
    obtain ⟨w_18, hc_19, hm⟩ := bnd hm
    refine V_callVV C (As := [.int s_boards, .int x8, .long r_16]) (wr := []) (ws2 := [(h0, eO 3 [.ref a_s_cells, .ref a_s_notes, .int s_boards]), (a_s_cells, eJ 392 w_18), (a_s_notes, eI 288 s_notes)]) (kX3_put h0 a_s_cells a_s_notes s_boards s_cells s_notes s_boards x8 r_16 w_18 hc_19) gX3_go_X3_put rfl ⟨rfl, rfl⟩ hdX3_put ⟨Nat.le_of_ble_eq_true rfl, Nat.le_of_ble_eq_true rfl⟩ ⟨Nat.zero_le _, Nat.zero_le _⟩ 0 rfl rfl [0, 1, 2] [] [0, 1, 2] rfl rfl ⟨rfl, rfl, rfl⟩ (by decide) rfl rfl (Nat.le_of_ble_eq_true rfl) dX3_go_102 ?_
    refine V_iinc C 2 (v := x8 + (1 : Int32)) (lv' := [(8, .int (x8 + (1 : Int32))), (0, .ref h0), (7, .int x7)]) dX3_go_105 rfl rfl (by decide) rfl ?_
    refine V_goto C 80 dX3_go_108 (by decide) ?_
    refine V_lv [1, 2, 0] rfl ?_
    exact hb (x8 + (1 : Int32)) w_18 (Option.some.inj hm).symm
  · have hm := ite_f c_15 hm
    refine V_lv [0] rfl ?_
    exact he0 s_cells (Option.some.inj hm).symm
theorem lX3_go_L80 {Γ : KT} (C : CX Γ cX3_go 9 wsX3_go RX3 ({ frames := 4, cells := 0, slots := 0, locals := 98 } : Room)) (h0 : Nat) (a_s_cells : Nat) (a_s_notes : Nat) (x7 : Int32) (s_boards : Int32) (s_notes : Nat → Int32) (x8 : Int32) (s_cells : Nat → Int64) (N : Nat) (e : (Nat → Int64)) (hN : itr (fX3_go_L80 x7 s_boards s_notes) N (x8, s_cells) = some e) (he0 : (∀ (s_cells' : Nat → Int64), e = s_cells' → V Γ 9 0 0 111 [(0, .ref h0)] [] [(h0, eO 3 [.ref a_s_cells, .ref a_s_notes, .int s_boards]), (a_s_cells, eJ 392 s_cells'), (a_s_notes, eI 288 s_notes)])) : V Γ 9 0 0 80 [(0, .ref h0), (7, .int x7), (8, .int x8)] [] [(h0, eO 3 [.ref a_s_cells, .ref a_s_notes, .int s_boards]), (a_s_cells, eJ 392 s_cells), (a_s_notes, eI 288 s_notes)] := by
  induction N generalizing x8 s_cells with
  | zero => exact absurd hN (fun h => itr_0 h)
  | succ N ih =>
    obtain ⟨x, hx, hN⟩ := itr_s hN
    refine bX3_go_L80 C h0 a_s_cells a_s_notes x7 s_boards s_notes x8 s_cells x hx (fun x8' s_cells' h => ih x8' s_cells' (by subst h; exact hN)) (fun y0 h => he0 y0 (by subst h; exact (Option.some.inj hN).symm))
def fX3_go (p0 : Int32) (p1 : Int32) (p2 : Int32) (p3 : Int32) (p4 : Int32) (p5 : Int32) (s_boards : Int32) (s_cells : Nat → Int64) (s_notes : Nat → Int32) : Option ((Int32) × (Nat → Int64) × (Nat → Int32)) := if s_boards < (1 : Int32) then some (s_boards, s_cells, s_notes) else if (48 : Int32) < s_boards then some (s_boards, s_cells, s_notes) else Option.bind (fX3_tell (s_boards - (1 : Int32)) (0 : Int32) p0 s_notes) (fun w_3 => Option.bind (fX3_tell (s_boards - (1 : Int32)) (1 : Int32) p1 w_3) (fun w_5 => Option.bind (fX3_tell (s_boards - (1 : Int32)) (2 : Int32) p2 w_5) (fun w_7 => Option.bind (fX3_tell (s_boards - (1 : Int32)) (3 : Int32) p3 w_7) (fun w_9 => Option.bind (fX3_tell (s_boards - (1 : Int32)) (4 : Int32) p4 w_9) (fun w_11 => Option.bind (fX3_tell (s_boards - (1 : Int32)) (5 : Int32) p5 w_11) (fun w_13 => Option.bind (itr (fX3_go_L80 (s_boards - (1 : Int32)) s_boards w_13) KF ((0 : Int32), s_cells)) (fun u_22 => some (s_boards + (1 : Int32), u_22, w_13))))))))
set_option maxHeartbeats 4000000 in
set_option maxRecDepth 100000 in
theorem kX3_go {l : Launch} (h0 : Nat) (a_s_cells : Nat) (a_s_notes : Nat) (s_boards : Int32) (s_cells : Nat → Int64) (s_notes : Nat → Int32) (p0 : Int32) (p1 : Int32) (p2 : Int32) (p3 : Int32) (p4 : Int32) (p5 : Int32) (o_s_boards : Int32) (o_s_cells : Nat → Int64) (o_s_notes : Nat → Int32) (hm : fX3_go p0 p1 p2 p3 p4 p5 s_boards s_cells s_notes = some (o_s_boards, o_s_cells, o_s_notes)) : CtV l yX3_go wsX3_go ({ frames := 4, cells := 0, slots := 0, locals := 98 } : Room) [.ref h0, .int p0, .int p1, .int p2, .int p3, .int p4, .int p5] [(h0, eO 3 [.ref a_s_cells, .ref a_s_notes, .int s_boards]), (a_s_cells, eJ 392 s_cells), (a_s_notes, eI 288 s_notes)] [(h0, eO 3 [.ref a_s_cells, .ref a_s_notes, .int o_s_boards]), (a_s_cells, eJ 392 o_s_cells), (a_s_notes, eI 288 o_s_notes)] := by
  refine CtV_of (cc := cX3_go) (maxL := 9) (own := RX3) rfl (by decide) rfl (lv0 := [(0, .ref h0), (1, .int p0), (2, .int p1), (3, .int p2), (4, .int p3), (5, .int p4), (6, .int p5)]) rfl (Nat.le_of_ble_eq_true rfl) (fun Γ hL C hR => ?_)
  subst hL
  unfold fX3_go at hm
  refine V_aload_n C 0 dX3_go_0 rfl rfl ?_
  refine V_get C uX3_go_X3 0 2 rfl rfl (by decide) mX3_go_1 rfl dX3_go_1 ?_
  refine V_iconst C (v := (1 : Int32)) dX3_go_4 (by decide) ?_
  refine V_icmp_lt C 17 dX3_go_5 (by decide) (fun c_1 => ?_) (fun c_1 => ?_)
  · have hm := ite_t c_1 hm
    cases hm
    exact hR _ _ dX3_go_17
  · have hm := ite_f c_1 hm
    refine V_aload_n C 0 dX3_go_8 rfl rfl ?_
    refine V_get C uX3_go_X3 0 2 rfl rfl (by decide) mX3_go_1 rfl dX3_go_9 ?_
    refine V_bipush C (v := (48 : Int32)) dX3_go_12 (by decide) ?_
    refine V_icmp_le C 18 dX3_go_14 (by decide) (fun c_2 => ?_) (fun c_2 => ?_)
    · have hm := ite_t c_2 hm
      cases hm
      exact hR _ _ dX3_go_17
    · have hm := ite_f c_2 hm
      refine V_aload_n C 0 dX3_go_18 rfl rfl ?_
      refine V_get C uX3_go_X3 0 2 rfl rfl (by decide) mX3_go_1 rfl dX3_go_19 ?_
      refine V_iconst C (v := (1 : Int32)) dX3_go_22 (by decide) ?_
      refine V_isub C dX3_go_23 ?_
      refine V_istore C (lv' := [(7, .int (s_boards - (1 : Int32))), (0, .ref h0), (1, .int p0), (2, .int p1), (3, .int p2), (4, .int p3), (5, .int p4), (6, .int p5)]) dX3_go_24 (by decide) rfl ?_
      refine V_aload_n C 1 dX3_go_26 rfl rfl ?_
      refine V_iload C 0 dX3_go_27 rfl ?_
      refine V_iconst C (v := (0 : Int32)) dX3_go_29 (by decide) ?_
      refine V_iload_n C 2 dX3_go_30 rfl rfl ?_
      obtain ⟨w_3, hc_4, hm⟩ := bnd hm
      refine V_callVV C (As := [.int (s_boards - (1 : Int32)), .int (0 : Int32), .int p0]) (wr := []) (ws2 := [(h0, eO 3 [.ref a_s_cells, .ref a_s_notes, .int s_boards]), (a_s_cells, eJ 392 s_cells), (a_s_notes, eI 288 w_3)]) (kX3_tell h0 a_s_cells a_s_notes s_boards s_cells s_notes (s_boards - (1 : Int32)) (0 : Int32) p0 w_3 hc_4) gX3_go_X3_tell rfl ⟨rfl, rfl⟩ hdX3_tell ⟨Nat.le_of_ble_eq_true rfl, Nat.le_of_ble_eq_true rfl⟩ ⟨Nat.zero_le _, Nat.zero_le _⟩ 0 rfl rfl [0, 1, 2] [] [0, 1, 2] rfl rfl ⟨rfl, rfl, rfl⟩ (by decide) rfl rfl (Nat.le_of_ble_eq_true rfl) dX3_go_31 ?_
      refine V_aload_n C 1 dX3_go_34 rfl rfl ?_
      refine V_iload C 0 dX3_go_35 rfl ?_
      refine V_iconst C (v := (1 : Int32)) dX3_go_37 (by decide) ?_
      refine V_iload_n C 3 dX3_go_38 rfl rfl ?_
      obtain ⟨w_5, hc_6, hm⟩ := bnd hm
      refine V_callVV C (As := [.int (s_boards - (1 : Int32)), .int (1 : Int32), .int p1]) (wr := []) (ws2 := [(h0, eO 3 [.ref a_s_cells, .ref a_s_notes, .int s_boards]), (a_s_cells, eJ 392 s_cells), (a_s_notes, eI 288 w_5)]) (kX3_tell h0 a_s_cells a_s_notes s_boards s_cells w_3 (s_boards - (1 : Int32)) (1 : Int32) p1 w_5 hc_6) gX3_go_X3_tell rfl ⟨rfl, rfl⟩ hdX3_tell ⟨Nat.le_of_ble_eq_true rfl, Nat.le_of_ble_eq_true rfl⟩ ⟨Nat.zero_le _, Nat.zero_le _⟩ 0 rfl rfl [0, 1, 2] [] [0, 1, 2] rfl rfl ⟨rfl, rfl, rfl⟩ (by decide) rfl rfl (Nat.le_of_ble_eq_true rfl) dX3_go_39 ?_
      refine V_aload_n C 1 dX3_go_42 rfl rfl ?_
      refine V_iload C 0 dX3_go_43 rfl ?_
      refine V_iconst C (v := (2 : Int32)) dX3_go_45 (by decide) ?_
      refine V_iload_n C 4 dX3_go_46 rfl rfl ?_
      obtain ⟨w_7, hc_8, hm⟩ := bnd hm
      refine V_callVV C (As := [.int (s_boards - (1 : Int32)), .int (2 : Int32), .int p2]) (wr := []) (ws2 := [(h0, eO 3 [.ref a_s_cells, .ref a_s_notes, .int s_boards]), (a_s_cells, eJ 392 s_cells), (a_s_notes, eI 288 w_7)]) (kX3_tell h0 a_s_cells a_s_notes s_boards s_cells w_5 (s_boards - (1 : Int32)) (2 : Int32) p2 w_7 hc_8) gX3_go_X3_tell rfl ⟨rfl, rfl⟩ hdX3_tell ⟨Nat.le_of_ble_eq_true rfl, Nat.le_of_ble_eq_true rfl⟩ ⟨Nat.zero_le _, Nat.zero_le _⟩ 0 rfl rfl [0, 1, 2] [] [0, 1, 2] rfl rfl ⟨rfl, rfl, rfl⟩ (by decide) rfl rfl (Nat.le_of_ble_eq_true rfl) dX3_go_47 ?_
      refine V_aload_n C 1 dX3_go_50 rfl rfl ?_
      refine V_iload C 0 dX3_go_51 rfl ?_
      refine V_iconst C (v := (3 : Int32)) dX3_go_53 (by decide) ?_
      refine V_iload C 5 dX3_go_54 rfl ?_
      obtain ⟨w_9, hc_10, hm⟩ := bnd hm
      refine V_callVV C (As := [.int (s_boards - (1 : Int32)), .int (3 : Int32), .int p3]) (wr := []) (ws2 := [(h0, eO 3 [.ref a_s_cells, .ref a_s_notes, .int s_boards]), (a_s_cells, eJ 392 s_cells), (a_s_notes, eI 288 w_9)]) (kX3_tell h0 a_s_cells a_s_notes s_boards s_cells w_7 (s_boards - (1 : Int32)) (3 : Int32) p3 w_9 hc_10) gX3_go_X3_tell rfl ⟨rfl, rfl⟩ hdX3_tell ⟨Nat.le_of_ble_eq_true rfl, Nat.le_of_ble_eq_true rfl⟩ ⟨Nat.zero_le _, Nat.zero_le _⟩ 0 rfl rfl [0, 1, 2] [] [0, 1, 2] rfl rfl ⟨rfl, rfl, rfl⟩ (by decide) rfl rfl (Nat.le_of_ble_eq_true rfl) dX3_go_56 ?_
      refine V_aload_n C 1 dX3_go_59 rfl rfl ?_
      refine V_iload C 0 dX3_go_60 rfl ?_
      refine V_iconst C (v := (4 : Int32)) dX3_go_62 (by decide) ?_
      refine V_iload C 6 dX3_go_63 rfl ?_
      obtain ⟨w_11, hc_12, hm⟩ := bnd hm
      refine V_callVV C (As := [.int (s_boards - (1 : Int32)), .int (4 : Int32), .int p4]) (wr := []) (ws2 := [(h0, eO 3 [.ref a_s_cells, .ref a_s_notes, .int s_boards]), (a_s_cells, eJ 392 s_cells), (a_s_notes, eI 288 w_11)]) (kX3_tell h0 a_s_cells a_s_notes s_boards s_cells w_9 (s_boards - (1 : Int32)) (4 : Int32) p4 w_11 hc_12) gX3_go_X3_tell rfl ⟨rfl, rfl⟩ hdX3_tell ⟨Nat.le_of_ble_eq_true rfl, Nat.le_of_ble_eq_true rfl⟩ ⟨Nat.zero_le _, Nat.zero_le _⟩ 0 rfl rfl [0, 1, 2] [] [0, 1, 2] rfl rfl ⟨rfl, rfl, rfl⟩ (by decide) rfl rfl (Nat.le_of_ble_eq_true rfl) dX3_go_65 ?_
      refine V_aload_n C 1 dX3_go_68 rfl rfl ?_
      refine V_iload C 0 dX3_go_69 rfl ?_
      refine V_iconst C (v := (5 : Int32)) dX3_go_71 (by decide) ?_
      refine V_iload C 7 dX3_go_72 rfl ?_
      obtain ⟨w_13, hc_14, hm⟩ := bnd hm
      refine V_callVV C (As := [.int (s_boards - (1 : Int32)), .int (5 : Int32), .int p5]) (wr := []) (ws2 := [(h0, eO 3 [.ref a_s_cells, .ref a_s_notes, .int s_boards]), (a_s_cells, eJ 392 s_cells), (a_s_notes, eI 288 w_13)]) (kX3_tell h0 a_s_cells a_s_notes s_boards s_cells w_11 (s_boards - (1 : Int32)) (5 : Int32) p5 w_13 hc_14) gX3_go_X3_tell rfl ⟨rfl, rfl⟩ hdX3_tell ⟨Nat.le_of_ble_eq_true rfl, Nat.le_of_ble_eq_true rfl⟩ ⟨Nat.zero_le _, Nat.zero_le _⟩ 0 rfl rfl [0, 1, 2] [] [0, 1, 2] rfl rfl ⟨rfl, rfl, rfl⟩ (by decide) rfl rfl (Nat.le_of_ble_eq_true rfl) dX3_go_74 ?_
      refine V_iconst C (v := (0 : Int32)) dX3_go_77 (by decide) ?_
      refine V_istore C (lv' := [(8, .int (0 : Int32)), (7, .int (s_boards - (1 : Int32))), (0, .ref h0), (1, .int p0), (2, .int p1), (3, .int p2), (4, .int p3), (5, .int p4), (6, .int p5)]) dX3_go_78 (by decide) rfl ?_
      obtain ⟨u_22, hE_21, hm⟩ := bnd hm
      refine V_lv [2, 1, 0] rfl ?_
      refine lX3_go_L80 C h0 a_s_cells a_s_notes (s_boards - (1 : Int32)) s_boards w_13 (0 : Int32) s_cells KF _ hE_21 ?_
      intro q_23 hq
      cases hq
      refine V_aload_n C 0 dX3_go_111 rfl rfl ?_
      refine V_dup C dX3_go_112 rfl ?_
      refine V_get C uX3_go_X3 0 2 rfl rfl (by decide) mX3_go_1 rfl dX3_go_113 ?_
      refine V_iconst C (v := (1 : Int32)) dX3_go_116 (by decide) ?_
      refine V_iadd C dX3_go_117 ?_
      refine V_put C (ty := .int) uX3_go_X3 tyX3 tyX3_ok nmX3 0 2 rfl rfl (by decide) mX3_go_1 rfl (by decide +kernel) rfl rfl (Nat.le_of_ble_eq_true rfl) dX3_go_118 (ws' := [(h0, eO 3 [.ref a_s_cells, .ref a_s_notes, .int (s_boards + (1 : Int32))]), (a_s_cells, eJ 392 u_22), (a_s_notes, eI 288 w_13)]) rfl ?_
      cases hm
      exact hR _ _ dX3_go_121
theorem hdX3_go : yX3_go.cls = RX3 ∧ yX3_go.cls ≠ "java/lang/invoke/MethodHandle" ∧ yX3_go.cls ≠ "java/lang/invoke/VarHandle" ∧ (parseMethodDescriptor yX3_go.desc).map (fun d => d.parameters.length) = some 6 := by decide +kernel
-- RodBoard$Course.actsOnFirst(II)Z
def fX3_actsOnFirst_B22 (x1 : Int32) (x2 : Int32) (s_notes : Nat → Int32) : Option ((Int32)) := Option.bind (fX3_noted x1 (4 : Int32) s_notes) (fun r_5 => if x2 = r_5 then some (1 : Int32) else some (0 : Int32))
set_option maxHeartbeats 4000000 in
set_option maxRecDepth 100000 in
theorem jX3_actsOnFirst_B22 {Γ : KT} (C : CX Γ cX3_actsOnFirst 5 wsX3_actsOnFirst RX3 ({ frames := 1, cells := 0, slots := 0, locals := 23 } : Room)) (h0 : Nat) (a_s_cells : Nat) (a_s_notes : Nat) (x1 : Int32) (x2 : Int32) (s_boards : Int32) (s_cells : Nat → Int64) (s_notes : Nat → Int32) (r : Int32) (hm : fX3_actsOnFirst_B22 x1 x2 s_notes = some r) (hR : (∀ (pc : Nat) (lv : List (Nat × Value)), narrow .boolean (.int r) = .int r → decode cX3_actsOnFirst pc = .ok (.ireturn, 1) → V Γ 5 0 0 pc lv [.int r] [(h0, eO 3 [.ref a_s_cells, .ref a_s_notes, .int s_boards]), (a_s_cells, eJ 392 s_cells), (a_s_notes, eI 288 s_notes)])) : V Γ 5 0 0 22 [(0, .ref h0), (1, .int x1), (2, .int x2)] [] [(h0, eO 3 [.ref a_s_cells, .ref a_s_notes, .int s_boards]), (a_s_cells, eJ 392 s_cells), (a_s_notes, eI 288 s_notes)] := by
  unfold fX3_actsOnFirst_B22 at hm
  refine V_iconst C (v := (1 : Int32)) dX3_actsOnFirst_22 (by decide) ?_
  refine V_goto C 27 dX3_actsOnFirst_23 (by decide) ?_
  refine V_istore C (lv' := [(4, .int (1 : Int32)), (0, .ref h0), (1, .int x1), (2, .int x2)]) dX3_actsOnFirst_27 (by decide) rfl ?_
  refine V_iload C 0 dX3_actsOnFirst_29 rfl ?_
  refine V_if_eq C 48 dX3_actsOnFirst_31 (by decide) (fun c0 => absurd c0 (by decide)) (fun _ => ?_)
  refine V_iload_n C 3 dX3_actsOnFirst_34 rfl rfl ?_
  refine V_aload_n C 1 dX3_actsOnFirst_35 rfl rfl ?_
  refine V_iload_n C 2 dX3_actsOnFirst_36 rfl rfl ?_
  refine V_iconst C (v := (4 : Int32)) dX3_actsOnFirst_37 (by decide) ?_
  obtain ⟨r_5, hc_6, hm⟩ := bnd hm
  refine V_callVI C (As := [.int x1, .int (4 : Int32)]) (wr := []) (ws2 := [(h0, eO 3 [.ref a_s_cells, .ref a_s_notes, .int s_boards]), (a_s_cells, eJ 392 s_cells), (a_s_notes, eI 288 s_notes)]) (kX3_noted h0 a_s_cells a_s_notes s_boards s_cells s_notes x1 (4 : Int32) r_5 hc_6) gX3_actsOnFirst_X3_noted rfl ⟨rfl, rfl⟩ hdX3_noted ⟨Nat.le_of_ble_eq_true rfl, Nat.le_of_ble_eq_true rfl⟩ ⟨Nat.zero_le _, Nat.zero_le _⟩ 0 rfl rfl [0, 1, 2] [] [0, 1, 2] rfl rfl ⟨rfl, rfl, rfl⟩ (by decide) rfl rfl (Nat.le_of_ble_eq_true rfl) dX3_actsOnFirst_38 ?_
  refine V_icmp_ne C 48 dX3_actsOnFirst_41 (by decide) (fun c_7 => ?_) (fun c_7 => ?_)
  · have hm := ite_t c_7 hm
    refine V_iconst C (v := (1 : Int32)) dX3_actsOnFirst_44 (by decide) ?_
    refine V_goto C 49 dX3_actsOnFirst_45 (by decide) ?_
    cases hm
    exact hR _ _ rfl dX3_actsOnFirst_49
  · have hm := ite_f c_7 hm
    refine V_iconst C (v := (0 : Int32)) dX3_actsOnFirst_48 (by decide) ?_
    cases hm
    exact hR _ _ rfl dX3_actsOnFirst_49
def fX3_actsOnFirst (p0 : Int32) (p1 : Int32) (s_notes : Nat → Int32) : Option ((Int32)) := Option.bind (fX3_noted p0 (0 : Int32) s_notes) (fun r_1 => if r_1 = (2 : Int32) then fX3_actsOnFirst_B22 p0 p1 s_notes else if r_1 = (3 : Int32) then fX3_actsOnFirst_B22 p0 p1 s_notes else if r_1 = (4 : Int32) then fX3_actsOnFirst_B22 p0 p1 s_notes else some (0 : Int32))
set_option maxHeartbeats 4000000 in
set_option maxRecDepth 100000 in
theorem kX3_actsOnFirst {l : Launch} (h0 : Nat) (a_s_cells : Nat) (a_s_notes : Nat) (s_boards : Int32) (s_cells : Nat → Int64) (s_notes : Nat → Int32) (p0 : Int32) (p1 : Int32) (r : Int32) (hm : fX3_actsOnFirst p0 p1 s_notes = some r) : CtI l yX3_actsOnFirst wsX3_actsOnFirst ({ frames := 1, cells := 0, slots := 0, locals := 23 } : Room) [.ref h0, .int p0, .int p1] [(h0, eO 3 [.ref a_s_cells, .ref a_s_notes, .int s_boards]), (a_s_cells, eJ 392 s_cells), (a_s_notes, eI 288 s_notes)] r [(h0, eO 3 [.ref a_s_cells, .ref a_s_notes, .int s_boards]), (a_s_cells, eJ 392 s_cells), (a_s_notes, eI 288 s_notes)] := by
  refine CtI_of (cc := cX3_actsOnFirst) (maxL := 5) (ty := .boolean) (own := RX3) rfl (by decide) rfl (lv0 := [(0, .ref h0), (1, .int p0), (2, .int p1)]) rfl (Nat.le_of_ble_eq_true rfl) (fun Γ hL C hR => ?_)
  subst hL
  unfold fX3_actsOnFirst at hm
  refine V_aload_n C 0 dX3_actsOnFirst_0 rfl rfl ?_
  refine V_iload_n C 1 dX3_actsOnFirst_1 rfl rfl ?_
  refine V_iconst C (v := (0 : Int32)) dX3_actsOnFirst_2 (by decide) ?_
  obtain ⟨r_1, hc_2, hm⟩ := bnd hm
  refine V_callVI C (As := [.int p0, .int (0 : Int32)]) (wr := []) (ws2 := [(h0, eO 3 [.ref a_s_cells, .ref a_s_notes, .int s_boards]), (a_s_cells, eJ 392 s_cells), (a_s_notes, eI 288 s_notes)]) (kX3_noted h0 a_s_cells a_s_notes s_boards s_cells s_notes p0 (0 : Int32) r_1 hc_2) gX3_actsOnFirst_X3_noted rfl ⟨rfl, rfl⟩ hdX3_noted ⟨Nat.le_of_ble_eq_true rfl, Nat.le_of_ble_eq_true rfl⟩ ⟨Nat.zero_le _, Nat.zero_le _⟩ 0 rfl rfl [0, 1, 2] [] [0, 1, 2] rfl rfl ⟨rfl, rfl, rfl⟩ (by decide) rfl rfl (Nat.le_of_ble_eq_true rfl) dX3_actsOnFirst_3 ?_
  refine V_istore_n C (lv' := [(3, .int r_1), (0, .ref h0), (1, .int p0), (2, .int p1)]) dX3_actsOnFirst_6 rfl (by decide) rfl ?_
  refine V_iload_n C 0 dX3_actsOnFirst_7 rfl rfl ?_
  refine V_iconst C (v := (2 : Int32)) dX3_actsOnFirst_8 (by decide) ?_
  refine V_icmp_eq C 22 dX3_actsOnFirst_9 (by decide) (fun c_3 => ?_) (fun c_3 => ?_)
  · have hm := ite_t c_3 hm
    refine V_lv [1, 2, 3] rfl ?_
    exact jX3_actsOnFirst_B22 C h0 a_s_cells a_s_notes p0 p1 s_boards s_cells s_notes _ hm hR
  · have hm := ite_f c_3 hm
    refine V_iload_n C 0 dX3_actsOnFirst_12 rfl rfl ?_
    refine V_iconst C (v := (3 : Int32)) dX3_actsOnFirst_13 (by decide) ?_
    refine V_icmp_eq C 22 dX3_actsOnFirst_14 (by decide) (fun c_8 => ?_) (fun c_8 => ?_)
    · have hm := ite_t c_8 hm
      refine V_lv [1, 2, 3] rfl ?_
      exact jX3_actsOnFirst_B22 C h0 a_s_cells a_s_notes p0 p1 s_boards s_cells s_notes _ hm hR
    · have hm := ite_f c_8 hm
      refine V_iload_n C 0 dX3_actsOnFirst_17 rfl rfl ?_
      refine V_iconst C (v := (4 : Int32)) dX3_actsOnFirst_18 (by decide) ?_
      refine V_icmp_ne C 26 dX3_actsOnFirst_19 (by decide) (fun c_9 => ?_) (fun c_9 => ?_)
      · have hm := ite_t c_9 hm
        refine V_lv [1, 2, 3] rfl ?_
        exact jX3_actsOnFirst_B22 C h0 a_s_cells a_s_notes p0 p1 s_boards s_cells s_notes _ hm hR
      · have hm := ite_f c_9 hm
        refine V_iconst C (v := (0 : Int32)) dX3_actsOnFirst_26 (by decide) ?_
        refine V_istore C (lv' := [(4, .int (0 : Int32)), (3, .int r_1), (0, .ref h0), (1, .int p0), (2, .int p1)]) dX3_actsOnFirst_27 (by decide) rfl ?_
        refine V_iload C 0 dX3_actsOnFirst_29 rfl ?_
        refine V_if_eq C 48 dX3_actsOnFirst_31 (by decide) (fun _ => ?_) (fun c0 => absurd (by decide) c0)
        refine V_iconst C (v := (0 : Int32)) dX3_actsOnFirst_48 (by decide) ?_
        cases hm
        exact hR _ _ rfl dX3_actsOnFirst_49
theorem hdX3_actsOnFirst : yX3_actsOnFirst.cls = RX3 ∧ yX3_actsOnFirst.cls ≠ "java/lang/invoke/MethodHandle" ∧ yX3_actsOnFirst.cls ≠ "java/lang/invoke/VarHandle" ∧ (parseMethodDescriptor yX3_actsOnFirst.desc).map (fun d => d.parameters.length) = some 2 := by decide +kernel
